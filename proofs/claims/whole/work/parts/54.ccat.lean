def pgF (n g : Nat) : Nat → Nat
  | 0 => 0
  | p + 1 => if kJ p < n ∧ ks n g (kI p) = ks n g (kJ p) then pgF n g p ||| 2 ^ p else pgF n g p
theorem pgF_lt (n g : Nat) : ∀ p, pgF n g p < 2 ^ p
  | 0 => Nat.zero_lt_one
  | p + 1 => by
    have h := pgF_lt n g p
    have h2 := Nat.pow_lt_pow_right (a := 2) (by decide) (Nat.lt_succ_self p)
    rw [pgF]
    split
    · exact Nat.or_lt_two_pow (Nat.lt_trans h h2) h2
    · exact Nat.lt_trans h h2
theorem pgF_bit (n g : Nat) (q : Nat) : ∀ p, (pgF n g p).testBit q = (decide (q < p) && decide (kJ q < n ∧ ks n g (kI q) = ks n g (kJ q)))
  | 0 => by rw [pgF, Nat.zero_testBit]; simp
  | p + 1 => by
    have h := pgF_bit n g q p
    rw [pgF]
    by_cases hx : q = p
    · subst hx
      split
      · rename_i hc
        rw [Nat.testBit_or, Nat.testBit_two_pow]
        simp [hc]
      · rename_i hc
        rw [h]
        simp [hc]
    · have e : decide (q < p + 1) = decide (q < p) := decide_eq_decide.mpr (by omega)
      rw [e, ← h]
      split
      · rw [Nat.testBit_or, Nat.testBit_two_pow, decide_eq_false (fun z => hx z.symm), Bool.or_false]
      · rfl
theorem pgF_km {n g : Nat} (h1 : 1 ≤ n) (h2 : n ≤ 6) (hg : g < kN n) : pgF n g 15 = km n g := by
  apply Nat.eq_of_testBit_eq
  intro q
  rw [pgF_bit]
  by_cases hq : q < 15
  · obtain ⟨_, _, i1, i2, i3⟩ := kIJ q hq
    have := km_bit h1 h2 hg i1 i2
    rw [i3] at this
    rw [this, decide_eq_true hq, Bool.true_and, Bool.decide_and]
  · rw [decide_eq_false hq, Bool.false_and]
    have hm := km_lt h1 h2 hg
    exact (Nat.testBit_lt_two_pow (Nat.lt_of_lt_of_le hm (by
      have := Nat.pow_le_pow_right (n := 2) (by decide) (show 15 ≤ q by omega)
      omega))).symm
theorem c_X0_pairsOfGrowth {h : zw_H} {n g : Nat} (h1 : 1 ≤ n) (h2 : n ≤ 6) (hg : g < kN n) (h7 : h.1 27 7 = nI n) (hw : ∀ e, e < n → h.1 33 e = nI (ks n g e)) : zpI 0 mX0_pairsOfGrowth [.ref 27] h (nI (km n g)) := by
  refine zcI_of rfl pn_X0 (fun _ => Nat.le_of_ble_eq_true rfl) rfl (rX0_pairsOfGrowth_0 ?_)
  rw [← pgF_km h1 h2 hg]
  generalize hr : nI (pgF n g 15) = res
  refine lp_up (P := fun p => zwI 0 mX0_pairsOfGrowth (fun x h' => x = res ∧ h' = h) 4 [(0, .ref 27), (1, .int (nI (pgF n g p))), (2, .int (nI p))] [] h) (N := 15) ?_ ?_ 0 (by omega)
  · exact rX0_pairsOfGrowth_4 ⟨fun _ => ⟨hr, rfl⟩, fun c => absurd (by decide) c⟩
  · intro p hp ih
    obtain ⟨s1, s2, i1, i2, i3⟩ := kIJ p hp
    rw [pgF] at ih
    refine rX0_pairsOfGrowth_4 ⟨fun c => ?_, fun _ => ⟨p, rfl, hp, fun c => ?_, fun c => ⟨p, rfl, hp, kI p, s1, by omega, p, rfl, hp, kJ p, s2, by omega, fun c2 => ?_, fun c2 => ?_⟩⟩⟩
    · have := zle (a := 15) c
      omega
    · rw [s2, h7] at c
      have := zle c
      rw [if_neg (by omega)] at ih
      rw [nI_1]
      exact ih
    · rw [s2, h7] at c
      have := znle c
      rw [hw _ (by omega), hw _ this] at c2
      have hne : ks n g (kI p) ≠ ks n g (kJ p) := fun z => c2 (by rw [z])
      rw [if_neg (fun z => hne z.2)] at ih
      rw [nI_1]
      exact ih
    · rw [s2, h7] at c
      have := znle c
      have k1 := ks_lt h1 h2 hg (show kI p < n by omega)
      have k2 := ks_lt h1 h2 hg this
      rw [hw _ (by omega), hw _ this] at c2
      rw [if_pos ⟨this, zeq c2⟩] at ih
      rw [zone (by omega), zor, nI_1]
      exact ih
/-- the greatest before -/
def gM (n g : Nat) : Nat → Nat
  | 0 => 0
  | f + 1 => max (gM n g f) (ks n g f)
theorem gM_kb {n g : Nat} (h1 : 1 ≤ n) (h2 : n ≤ 6) (hg : g < kN n) : ∀ e, e < n → gM n g (e + 1) + 1 = kb n (kt n g) (e + 1)
  | 0, he => by
    have h := ks_grow h1 h2 hg he
    have k0 : kb n (kt n g) 0 = 0 := rfl
    have k1 : ks n g 0 = 0 := by omega
    have k2 : kd n (kt n g) 0 = 0 := k1
    rw [gM, gM, kb, k0, k1, k2]
    rfl
  | e + 1, he => by
    have h := (ks_grow h1 h2 hg he).1
    have ih := gM_kb h1 h2 hg e (by omega)
    rw [gM, kb]
    have e1 : kd n (kt n g) (e + 1) = ks n g (e + 1) := rfl
    rw [e1]
    split <;> omega
theorem zmax_n {a b : Nat} (ha : a < 2147483648) (hb : b < 2147483648) : zmax (nI a) (nI b) = nI (max a b) := by
  unfold zmax
  by_cases hx : a < b
  · rw [if_pos ((nI_ltI ha hb).mpr hx), Nat.max_eq_right (by omega)]
  · rw [if_neg (fun z => hx ((nI_ltI ha hb).mp z)), Nat.max_eq_left (by omega)]
theorem gM_le (n g : Nat) : ∀ e, gM n g e ≤ 100
  | 0 => Nat.zero_le _
  | e + 1 => by
    have := gM_le n g e
    have := ks_100 n g e
    rw [gM]
    omega
theorem c_X0_greatestBefore {h : zw_H} {n g e : Nat} (h2 : n ≤ 6) (he : e ≤ n) (hw : ∀ f, f < e → h.1 33 f = nI (ks n g f)) : zpI 1 mX0_greatestBefore [.ref 27, .int (nI e)] h (nI (gM n g e)) := by
  refine zcI_of rfl pn_X0 (fun _ => Nat.le_of_ble_eq_true rfl) rfl (rX0_greatestBefore_0 ?_)
  generalize hr : nI (gM n g e) = res
  refine lp_up (P := fun f => zwI 1 mX0_greatestBefore (fun x h' => x = res ∧ h' = h) 4 [(0, .ref 27), (1, .int (nI e)), (2, .int (nI (gM n g f))), (3, .int (nI f))] [] h) (N := e) ?_ ?_ 0 (by omega)
  · exact rX0_greatestBefore_4 ⟨fun _ => ⟨hr, rfl⟩, fun c => absurd (nI_le (Nat.le_refl _) (by omega)) c⟩
  · intro f hf ih
    have g1 := gM_le n g f
    have g2 := ks_100 n g f
    refine rX0_greatestBefore_4 ⟨fun c => ?_, fun _ => ⟨f, rfl, by omega, ?_⟩⟩
    · have := zle c
      omega
    · rw [hw f hf, zmax_n (by omega) (by omega), nI_1]
      exact ih
theorem c_X0_advance {h : zw_H} {n g : Nat} (h1 : 1 ≤ n) (h2 : n ≤ 6) (hg : g < kN n) (h7 : h.1 27 7 = nI n) (hw : ∀ e, e < n → h.1 33 e = nI (ks n g e)) : zcI 2 mX0_advance [.ref 27] h (fun x h' => Fr (fun a _ => a = 33) h h' ∧ (g + 1 < kN n → x = 1 ∧ ∀ e, e < n → h'.1 33 e = nI (ks n (g + 1) e)) ∧ (g + 1 = kN n → x = 0)) := by
  refine zcI_of rfl pn_X0 (fun _ => Nat.le_of_ble_eq_true rfl) rfl (rX0_advance_0 ?_)
  generalize hQ : (fun (x : Int32) (h' : zw_H) => Fr (fun a _ => a = 33) h h' ∧ (g + 1 < kN n → x = 1 ∧ ∀ e, e < n → h'.1 33 e = nI (ks n (g + 1) e)) ∧ (g + 1 = kN n → x = 0)) = Q
  have down : ∀ e, e < n → kQ n (kt n g) (n - 1) = kQ n (kt n g) e → ∀ k, Fr (fun a _ => a = 33) h k → (∀ f, f ≤ e → k.1 33 f = nI (ks n g f)) → (∀ f, e < f → f < n → k.1 33 f = nI 0) → zwI 2 mX0_advance Q 7 [(0, .ref 27), (1, .int (nI e))] [] k := by
    intro e
    induction e with
    | zero =>
      intro _ eq k fr _ _
      refine rX0_advance_7 ⟨fun _ => ?_, fun c => absurd (by decide) c⟩
      rw [← hQ]
      refine ⟨fr, fun z => ?_, fun _ => rfl⟩
      have := (kt_step h1 h2 z).1
      rw [eq, kQ] at this
      omega
    | succ e ih =>
      intro he eq k fr low high
      rw [kQ] at eq
      have gk := gM_kb h1 h2 hg e (by omega)
      have g1 := gM_le n g (e + 1)
      have g2 := ks_100 n g (e + 1)
      have e1 : kd n (kt n g) (e + 1) = ks n g (e + 1) := rfl
      rw [e1] at eq
      refine rX0_advance_7 ⟨fun c => ?_, fun _ => ⟨e + 1, rfl, by omega, ca (c_X0_greatestBefore h2 (by omega) (fun f hf => low f (by omega))) ⟨fun c => ⟨e + 1, rfl, by omega, fun k2 e2 => ?_⟩, fun c => ⟨e + 1, rfl, by omega, e + 1, rfl, by omega, fun k2 e2 => ?_⟩⟩⟩⟩
      · have := zle (b := 0) c
        omega
      · rw [low (e + 1) (Nat.le_refl _)] at c
        have c' := zlt c
        rw [if_neg (by omega)] at eq
        rw [pk_m1]
        refine ih (by omega) eq k2 (fr.sI e2 rfl) (fun f hf => ?_) (fun f hf hf2 => ?_)
        · rw [e2, zw_sI_n (Or.inr (by omega))]
          exact low f (by omega)
        · by_cases hx : f = e + 1
          · rw [hx, e2, zw_sI_s]
            rfl
          · rw [e2, zw_sI_n (Or.inr hx)]
            exact high f (by omega) hf2
      · rw [low (e + 1) (Nat.le_refl _)] at c
        have c' := znlt c
        rw [if_pos (by omega)] at eq
        rw [low (e + 1) (Nat.le_refl _), nI_1] at e2
        rw [← hQ]
        refine ⟨fr.sI e2 rfl, fun z => ⟨rfl, fun f hf => ?_⟩, fun z => ?_⟩
        · have st := (kt_step h1 h2 z).2 f hf
          rw [eq] at st
          rw [st]
          by_cases hx : f < e + 1
          · rw [if_pos hx, e2, zw_sI_n (Or.inr (by omega))]
            exact low f (by omega)
          · rw [if_neg hx]
            by_cases hy : f = e + 1
            · rw [if_pos hy, hy, e2, zw_sI_s]
            · rw [if_neg hy, e2, zw_sI_n (Or.inr hy)]
              exact high f (by omega) hf
        · have := kt_last h1 h2 z
          omega
  have m1 : nI n - 1 = nI (n - 1) := by rw [show n = (n - 1) + 1 by omega, nI_pred]; rfl
  rw [h7, m1]
  exact down (n - 1) (by omega) rfl h Fr.rf (fun f hf => hw f (by omega)) (fun f h3 h4 => absurd h4 (by omega))
/-- an entry of the catalog -/
def CE (h : zw_H) (n g : Nat) : Prop := h.1 28 g = nI (km n g) ∧ h.1 29 g = nI (kt n g) ∧ h.1 30 g = nI (szs n g) ∧ h.1 31 g = nI (kB n g) ∧ h.1 32 g = bI ((kF n g).isSome = true)
theorem CE.fr {P : Nat → Nat → Prop} {h h' : zw_H} {n g : Nat} (C : CE h n g) (f : Fr P h h') (p1 : ¬ P 28 g) (p2 : ¬ P 29 g) (p3 : ¬ P 30 g) (p4 : ¬ P 31 g) (p5 : ¬ P 32 g) : CE h' n g := by
  obtain ⟨c1, c2, c3, c4, c5⟩ := C
  exact ⟨by rw [f.1 _ _ p1]; exact c1, by rw [f.1 _ _ p2]; exact c2, by rw [f.1 _ _ p3]; exact c3, by rw [f.1 _ _ p4]; exact c4, by rw [f.1 _ _ p5]; exact c5⟩
def pE (g a b : Nat) : Prop := 28 ≤ a ∧ a ≤ 32 ∧ b = g ∨ pSh 34 35 36 a b
theorem c_X0_enter {h : zw_H} {n g : Nat} (h1 : 1 ≤ n) (h2 : n ≤ 6) (hg : g < kN n) (h7 : h.1 27 7 = nI n) (hw : ∀ e, e < n → h.1 33 e = nI (ks n g e)) : zcV 3 mX0_enter [.ref 27, .int (nI g)] h (fun h' => CE h' n g ∧ Fr (pE g) h h') := by
  have hN := (kN_le h1 h2).1
  have hB := kB_le h1 h2 hg
  refine zcV_of rfl pn_X0 (fun _ => Nat.le_of_ble_eq_true rfl) rfl (rX0_enter_0 (ca (c_X0_pairsOfGrowth h1 h2 hg h7 hw) ⟨g, rfl, by omega, fun k3 e3 => ⟨g, rfl, by omega, ?_⟩⟩))
  have v28 : k3.1 28 g = nI (km n g) := by rw [e3, zw_sI_s]
  have v27 : k3.1 27 7 = nI n := by rw [e3, zw_sI_n (Or.inl (by decide))]; exact h7
  have po : ∀ a, 28 ≤ a → a ≤ 32 → pE g a g := fun a x y => Or.inl ⟨x, y, rfl⟩
  have F3 : Fr (pE g) h k3 := Fr.rf.sI e3 (po _ (by omega) (by omega))
  rw [v28, v27]
  refine caV (c_X3_spell zs_34 zs_35 zs_36 (by omega) (by omega) (by omega) h1 h2 hg) (fun k5 r5 => ?_)
  obtain ⟨S5, f5⟩ := r5
  have F5 : Fr (pE g) h k5 := F3.tr (f5.mo (fun a b z => Or.inr z))
  refine ca (c_X3_growthNumber zs_34 zs_35 zs_36 h1 h2 hg S5) ⟨g, rfl, by omega, fun k8 e8 => ?_⟩
  have mono : ∀ {k k' : zw_H} {a : Nat} {x : Int32}, 28 ≤ a → a ≤ 32 → k' = zw_sI k a g x → SP k 34 35 36 n g → SP k' 34 35 36 n g := by
    intro k k' a x x1 x2 e S
    have f : Fr (fun a' _ => a' = a) k k' := Fr.rf.sI e rfl
    exact ⟨by rw [f.1 _ _ (by omega)]; exact S.1, by rw [f.1 _ _ (by omega)]; exact S.2.1, fun e he => by rw [f.1 _ _ (by omega)]; exact S.2.2.1 e he, fun b hb => by rw [f.1 _ _ (by omega)]; exact S.2.2.2 b hb⟩
  have S8 := mono (by omega) (by omega) e8 S5
  refine ca (c_X3_sizeSet zs_34 zs_35 zs_36 h1 h2 hg S8) ⟨g, rfl, by omega, fun k11 e11 => ⟨g, rfl, by omega, fun k13 e13 => ?_⟩⟩
  have S11 := mono (by omega) (by omega) e11 S8
  have S13 := mono (by omega) (by omega) e13 S11
  rw [S11.2.1] at e13
  have F13 : Fr (pE g) h k13 := ((F5.sI e8 (po _ (by omega) (by omega))).sI e11 (po _ (by omega) (by omega))).sI e13 (po _ (by omega) (by omega))
  have e9 := enc2_9 (o := kF n g) (fun p q z => by
    have := kF_lt z
    omega)
  have fin : ∀ x, x = bI ((kF n g).isSome = true) → ∀ k, k = zw_sI k13 32 g x → CE k n g ∧ Fr (pE g) h k := fun x ex k ek => by
    refine ⟨⟨?_, ?_, ?_, ?_, ?_⟩, F13.sI ek (po _ (by omega) (by omega))⟩
    · rw [ek, zw_sI_n (Or.inl (by decide)), e13, zw_sI_n (Or.inl (by decide)), e11, zw_sI_n (Or.inl (by decide)), e8, zw_sI_n (Or.inl (by decide)), f5.1 28 g (by unfold pSh; omega)]
      exact v28
    · rw [ek, zw_sI_n (Or.inl (by decide)), e13, zw_sI_n (Or.inl (by decide)), e11, zw_sI_n (Or.inl (by decide)), e8, zw_sI_s]
    · rw [ek, zw_sI_n (Or.inl (by decide)), e13, zw_sI_n (Or.inl (by decide)), e11, zw_sI_s]
    · rw [ek, zw_sI_n (Or.inl (by decide)), e13, zw_sI_s]
    · rw [ek, zw_sI_s, ex]
  refine ca (c_X3_firstCrossing zs_34 zs_35 zs_36 h1 h2 hg S13) ⟨fun c => ⟨g, rfl, by omega, fin 0 ?_⟩, fun c => ⟨g, rfl, by omega, fin 1 ?_⟩⟩
  · exact (bI_f (none_some.mp (e9.mp c))).symm
  · refine (bI_t ?_).symm
    cases hx : kF n g with
    | none => exact absurd (e9.mpr hx) c
    | some _ => rfl
/-- the catalog of the class -/
def CC (h : zw_H) (n : Nat) : Prop := h.1 27 7 = nI n ∧ h.1 27 8 = nI (kN n) ∧ ∀ g, g < kN n → CE h n g
theorem CC.fr {P : Nat → Nat → Prop} {h h' : zw_H} {n : Nat} (C : CC h n) (f : Fr P h h') (p1 : ∀ b, ¬ P 27 b) (p2 : ∀ a b, 28 ≤ a → a ≤ 32 → ¬ P a b) : CC h' n := ⟨by rw [f.1 _ _ (p1 _)]; exact C.1, by rw [f.1 _ _ (p1 _)]; exact C.2.1, fun g hg => (C.2.2 g hg).fr f (p2 _ _ (by omega) (by omega)) (p2 _ _ (by omega) (by omega)) (p2 _ _ (by omega) (by omega)) (p2 _ _ (by omega) (by omega)) (p2 _ _ (by omega) (by omega))⟩
def pF (a _b : Nat) : Prop := 27 ≤ a ∧ a ≤ 36
theorem c_X0_fill {h : zw_H} {n : Nat} (h1 : 1 ≤ n) (h2 : n ≤ 6) (old : h.1 27 7 = nI n → CC h n) : zcV 4 mX0_fill [.ref 27, .int (nI n)] h (fun h' => CC h' n ∧ Fr pF h h') := by
  have hN := kN_le h1 h2
  have mn : zmin (nI n) 6 = nI n := by
    unfold zmin
    rw [if_neg]
    intro c
    have := zlt (a := 6) c
    omega
  refine zcV_of rfl pn_X0 (fun _ => Nat.le_of_ble_eq_true rfl) rfl (rX0_fill_0 ⟨fun _ => fun k1 e1 => ?_, fun c => ⟨old c, Fr.rf⟩⟩)
  rw [mn] at e1
  generalize hQ : (fun (h' : zw_H) => CC h' n ∧ Fr pF h h') = Q
  have v1 : k1.1 27 7 = nI n := by rw [e1, zw_sI_s]
  have F1 : Fr pF h k1 := Fr.rf.sI e1 (by unfold pF; omega)
  refine lp_up (P := fun e => ∀ k, Fr (fun a _ => a = 33) k1 k → (∀ f, f < e → k.1 33 f = nI 0) → zwV 4 mX0_fill Q 21 [(0, .ref 27), (2, .int (nI e))] [] k) (N := 6) ?_ ?_ 0 (by omega) k1 Fr.rf (fun _ h => absurd h (by omega))
  · intro k fr inv
    refine rX0_fill_21 ⟨fun _ => ?_, fun c => absurd (by decide) c⟩
    have start : ∀ e, e < n → k.1 33 e = nI (ks n 0 e) := fun e he => by
      rw [inv e (by omega), ks_0 h1 h2]
    refine lp_up (P := fun i => ∀ k, Fr pF h k → k.1 27 7 = nI n → (∀ g, g < i → CE k n g) → (i < kN n → ∀ e, e < n → k.1 33 e = nI (ks n i e)) → (i = kN n → k.1 27 8 = nI (kN n)) → zwV 4 mX0_fill Q 44 [(0, .ref 27), (2, .int (if i < kN n then 1 else 0)), (3, .int (nI i))] [] k) (N := kN n) ?_ ?_ 0 (by omega) k (F1.tr (fr.mo (fun a b z => by unfold pF; omega))) (by rw [fr.1 27 7 (by omega)]; exact v1) (fun _ h => absurd h (by omega)) (fun _ => start) (fun h => absurd h (by omega)) |> fun z => by
      rw [if_pos (by omega)] at z
      exact z
    · intro k fr v7 inv _ sz
      rw [← hQ]
      have : CC k n ∧ Fr pF h k := ⟨⟨v7, sz rfl, inv⟩, fr⟩
      refine rX0_fill_44 ⟨fun _ => this, fun _ => ⟨fun _ => this, fun c => absurd (by rw [if_neg (by omega)]) c⟩⟩
    · intro i hi ih k fr v7 inv gr _
      refine rX0_fill_44 ⟨fun c => ?_, fun _ => ⟨fun c => ?_, fun _ => caV (c_X0_enter h1 h2 hi v7 (gr hi)) (fun k2 r2 => fun k3 e3 => ?_)⟩⟩
      · have := zle (a := 203) c
        omega
      · rw [if_pos hi] at c
        exact absurd c (by decide)
      · rw [nI_1] at e3
        have f3 : Fr (fun a b => a = 27 ∧ b = 8) k2 k3 := Fr.rf.sI e3 ⟨rfl, rfl⟩
        have w3 : ∀ e, e < n → k3.1 33 e = nI (ks n i e) := fun e he => by
          rw [f3.1 33 e (by omega), r2.2.1 33 e (by unfold pE pSh; omega)]
          exact gr hi e he
        have v73 : k3.1 27 7 = nI n := by
          rw [f3.1 27 7 (by omega), r2.2.1 27 7 (by unfold pE pSh; omega)]
          exact v7
        refine cr (c_X0_advance h1 h2 hi v73 w3) (fun x k4 r4 => ?_)
        obtain ⟨f4, more, last⟩ := r4
        have F4 : Fr pF h k4 := ((fr.tr (r2.2.mo (fun a b z => by unfold pE pSh at z; unfold pF; omega))).tr (f3.mo (fun a b z => by unfold pF; omega))).tr (f4.mo (fun a b z => by unfold pF; omega))
        have inv4 : ∀ g, g < i + 1 → CE k4 n g := fun g hg => by
          have c3 : CE k3 n g := by
            by_cases hx : g = i
            · rw [hx]
              exact r2.1.fr f3 (by omega) (by omega) (by omega) (by omega) (by omega)
            · exact ((inv g (by omega)).fr r2.2 (by unfold pE pSh; omega) (by unfold pE pSh; omega) (by unfold pE pSh; omega) (by unfold pE pSh; omega) (by unfold pE pSh; omega)).fr f3 (by omega) (by omega) (by omega) (by omega) (by omega)
          exact c3.fr f4 (by omega) (by omega) (by omega) (by omega) (by omega)
        have v74 : k4.1 27 7 = nI n := by rw [f4.1 27 7 (by omega)]; exact v73
        have v84 : k4.1 27 8 = nI (i + 1) := by rw [f4.1 27 8 (by omega), e3, zw_sI_s]
        have ex : x = if i + 1 < kN n then 1 else 0 := by
          by_cases hx : i + 1 < kN n
          · rw [if_pos hx]
            exact (more hx).1
          · rw [if_neg hx]
            exact last (by omega)
        rw [ex, nI_1]
        exact ih k4 F4 v74 inv4 (fun z => (more z).2) (fun z => by rw [v84, z])
  · intro e he ih k fr inv
    refine rX0_fill_21 ⟨fun c => ?_, fun _ => ⟨e, rfl, by omega, fun k2 e2 => ?_⟩⟩
    · have := zle (a := 6) c
      omega
    · rw [nI_1]
      refine ih k2 (fr.sI e2 rfl) (fun f hf => ?_)
      by_cases hx : f = e
      · rw [hx, e2, zw_sI_s]
        rfl
      · rw [e2, zw_sI_n (Or.inr hx)]
        exact inv f (by omega)
