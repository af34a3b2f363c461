theorem fb_ct_6 {p : Nat → Bool} {n : Nat} (h : n ≤ 6) : fb_ct p n ≤ 6 := Nat.le_trans (fb_ct_le p n) h
theorem styI_le {c D : Nat → Nat} {set m0 M : Nat} (h0 : m0 ≤ M) (hD : ∀ t q, D t + c q ≤ M) : ∀ q, styI c D set m0 q ≤ M
  | 0 => h0
  | q + 1 => by
    have := styI_le (set := set) h0 hD q
    rw [styI]
    split
    · exact Nat.max_le.mpr ⟨this, hD _ _⟩
    · exact this
theorem sty_le {n a b : Nat} (h : n ≤ 6) : ∀ p set, sty n a b p set ≤ 6 * p
  | 0, _ => Nat.le_refl 0
  | p + 1, set => styI_le (Nat.le_trans (sty_le h p set) (by omega)) (fun t q => by
    have h1 := sty_le (a := a) (b := b) h p t
    have h2 : cmn n a p b q n ≤ 6 := fb_ct_6 h
    omega) _
theorem sty_0 {n a b : Nat} : ∀ p, sty n a b p 0 = 0
  | 0 => rfl
  | p + 1 => by
    have h : ∀ q, styI (fun q => cmn n a p b q n) (sty n a b p) 0 (sty n a b p 0) q = 0 := fun q => by
      induction q with
      | zero => exact sty_0 p
      | succ q ih => rw [styI, if_neg (by simp)]; exact ih
    exact h _
theorem set_del : ∀ set, set < 64 → ∀ q, q < 6 → set.testBit q = true → (set &&& (2 ^ q ^^^ 4294967295) = set ^^^ 2 ^ q ∧ set ^^^ 2 ^ q < set) := by decide +kernel
theorem zbit1 {m k : Nat} (hm : m < 2147483648) (hk : k < 32) : (nI m >>> (nI k &&& 31)) &&& 1 = 1 ↔ m.testBit k = true := by
  rw [zbit hm hk]
  cases h : m.testBit k <;> simp <;> decide
theorem c_X8_most {h : zw_H} {n a b : Nat} (T : RT h n) (ha : a < kN n) (hb : b < kN n) : zcI 2 mX8_most [.ref 56, .int (nI a), .int (nI b)] h (fun x h' => x = nI (sty n a b (kB n a) (2 ^ kB n b - 1)) ∧ Fr (fun a _ => a = 65) h h') := by
  have n1 := T.1
  have n2 := T.2.1
  have hN := (kN_le n1 n2).1
  have hBa := kB_le n1 n2 ha
  have hBb := kB_le n1 n2 hb
  have hp2 : 2 ^ kB n b ≤ 2 ^ 6 := Nat.pow_le_pow_right (by decide) (by omega)
  have hp1 : 2 ^ 1 ≤ 2 ^ kB n b := Nat.pow_le_pow_right (by decide) (by omega)
  refine zcI_of rfl pn_X8 (fun _ => Nat.le_of_ble_eq_true rfl) rfl (rX8_most_0 ⟨b, rfl, by omega, ?_⟩)
  rw [T.2.2.2.2.1 b hb, zone (by omega)]
  generalize hQ : (fun (x : Int32) (h' : zw_H) => x = nI (sty n a b (kB n a) (2 ^ kB n b - 1)) ∧ Fr (fun a _ => a = 65) h h') = Q
  generalize hS : 2 ^ kB n b = S
  rw [hS] at hp1 hp2 hQ
  have Tf : ∀ k, Fr (fun a _ => a = 65) h k → RT k n := fun k f => T.fr f (by omega) (by omega) (fun _ => by omega) (fun _ => by omega)
  have m1 : nI S - 1 = nI (S - 1) := by rw [show S = (S - 1) + 1 by omega, nI_pred]; rfl
  refine lp_up (P := fun i => ∀ k, Fr (fun a _ => a = 65) h k → (∀ t, t < i → k.1 65 t = nI 0) → zwI 2 mX8_most Q 12 [(0, .ref 56), (1, .int (nI a)), (2, .int (nI b)), (3, .int (nI S)), (4, .int (nI i))] [] k) (N := S) ?_ ?_ 0 (by omega) h Fr.rf (fun _ h => absurd h (by omega))
  · intro k fr inv
    refine rX8_most_12 ⟨fun _ => ?_, fun c => absurd (nI_le (Nat.le_refl _) (by omega)) c⟩
    refine lp_up (P := fun p => ∀ k, Fr (fun a _ => a = 65) h k → (∀ t, t < S → k.1 65 t = nI (sty n a b p t)) → zwI 2 mX8_most Q 35 [(0, .ref 56), (1, .int (nI a)), (2, .int (nI b)), (3, .int (nI S)), (4, .int (nI p))] [] k) (N := kB n a) ?_ ?_ 0 (by omega) k fr inv
    · intro k fr inv
      refine rX8_most_35 ⟨a, rfl, by omega, fun _ => ⟨S - 1, m1, by omega, ?_⟩, fun c => absurd (by rw [(Tf k fr).2.2.2.2.1 a ha]; exact nI_le (Nat.le_refl _) (by omega)) c⟩
      rw [← hQ]
      exact ⟨inv _ (by omega), fr⟩
    · intro p hp ih k fr inv
      refine rX8_most_35 ⟨a, rfl, by omega, fun c => ?_, fun _ => ?_⟩
      · rw [(Tf k fr).2.2.2.2.1 a ha] at c
        have := zle c
        omega
      rw [m1]
      have down : ∀ m, m < S → ∀ k, Fr (fun a _ => a = 65) h k → (∀ t, t < S → k.1 65 t = nI (if m < t then sty n a b (p + 1) t else sty n a b p t)) → zwI 2 mX8_most Q 51 [(0, .ref 56), (1, .int (nI a)), (2, .int (nI b)), (3, .int (nI S)), (4, .int (nI p)), (5, .int (nI m))] [] k := by
        intro m
        induction m with
        | zero =>
          intro _ k fr inv
          refine rX8_most_51 ⟨fun _ => ?_, fun c => absurd (by decide) c⟩
          rw [nI_1]
          refine ih k fr (fun t ht => ?_)
          rw [inv t ht]
          by_cases hx : 0 < t
          · rw [if_pos hx]
          · rw [if_neg hx, show t = 0 by omega, sty_0, sty_0]
        | succ m ihm =>
          intro hm k fr inv
          refine rX8_most_51 ⟨fun c => ?_, fun _ => ?_⟩
          · have := zle (b := 0) c
            omega
          have v0 : k.1 65 (m + 1) = nI (styI (fun q => cmn n a p b q n) (sty n a b p) (m + 1) (sty n a b p (m + 1)) 0) := by
            rw [inv (m + 1) hm, if_neg (by omega)]
            rfl
          refine lp_up (P := fun q => ∀ k2, Fr (fun a b => a = 65 ∧ b = m + 1) k k2 → k2.1 65 (m + 1) = nI (styI (fun q => cmn n a p b q n) (sty n a b p) (m + 1) (sty n a b p (m + 1)) q) → zwI 2 mX8_most Q 59 [(0, .ref 56), (1, .int (nI a)), (2, .int (nI b)), (3, .int (nI S)), (4, .int (nI p)), (5, .int (nI (m + 1))), (6, .int (nI q))] [] k2) (N := kB n b) ?_ ?_ 0 (by omega) k Fr.rf v0
          · intro k2 f2 e2
            have fr2 := fr.tr (f2.mo (fun a b q => q.1))
            refine rX8_most_59 ⟨b, rfl, by omega, fun _ => ?_, fun c => absurd (by rw [(Tf k2 fr2).2.2.2.2.1 b hb]; exact nI_le (Nat.le_refl _) (by omega)) c⟩
            rw [pk_m1]
            refine ihm (by omega) k2 fr2 (fun t ht => ?_)
            by_cases hx : t = m + 1
            · subst hx
              rw [e2, if_pos (by omega)]
              rfl
            · rw [f2.1 65 t (by omega), inv t ht]
              by_cases hy : m + 1 < t
              · rw [if_pos hy, if_pos (by omega)]
              · rw [if_neg hy, if_neg (by omega)]
          · intro q hq ih2 k2 f2 e2
            have fr2 := fr.tr (f2.mo (fun a b q => q.1))
            have T2 := Tf k2 fr2
            refine rX8_most_59 ⟨b, rfl, by omega, fun c => ?_, fun _ => ⟨fun c => ?_, fun c => ?_⟩⟩
            · rw [T2.2.2.2.2.1 b hb] at c
              have := zle c
              omega
            · have c' : ¬ (m + 1).testBit q = true := fun z => c ((zbit1 (by omega) (by omega)).mpr z)
              rw [nI_1]
              refine ih2 k2 f2 ?_
              rw [e2, styI, if_neg c']
            · have c' : (m + 1).testBit q = true := (zbit1 (by omega) (by omega)).mp c
              obtain ⟨s1, s2⟩ := set_del (m + 1) (by omega) q (by omega) c'
              refine ⟨(m + 1) ^^^ 2 ^ q, ?_, by omega, ?_⟩
              · rw [zone (by omega), zdel (by omega), s1]
              have ev : k2.1 65 ((m + 1) ^^^ 2 ^ q) = nI (sty n a b p ((m + 1) ^^^ 2 ^ q)) := by
                rw [f2.1 65 _ (by omega), inv _ (by omega), if_neg (by omega)]
              refine ca (c_X8_common T2 ha hb (by omega) (by omega)) ⟨m + 1, rfl, by omega, ?_⟩
              have b1 := sty_le (a := a) (b := b) n2 p ((m + 1) ^^^ 2 ^ q)
              have b2 : cmn n a p b q n ≤ 6 := fb_ct_6 n2
              have b3 : styI (fun q => cmn n a p b q n) (sty n a b p) (m + 1) (sty n a b p (m + 1)) q ≤ 6 * p + 6 := styI_le (Nat.le_trans (sty_le n2 p _) (by omega)) (fun t q => by
                have h1 := sty_le (a := a) (b := b) n2 p t
                have h2 : cmn n a p b q n ≤ 6 := fb_ct_6 n2
                omega) _
              rw [ev, nI_add, e2]
              refine ⟨fun c3 => ⟨m + 1, rfl, by omega, m + 1, rfl, by omega, fun k3 e3 => ?_⟩, fun c3 => ⟨m + 1, rfl, by omega, fun k3 e3 => ?_⟩⟩
              · have c4 := zle c3
                rw [nI_1]
                refine ih2 k3 (f2.sI e3 ⟨rfl, rfl⟩) ?_
                rw [e3, zw_sI_s, styI, if_pos c', Nat.max_eq_left c4, e2]
              · have c4 := znle c3
                rw [nI_1]
                refine ih2 k3 (f2.sI e3 ⟨rfl, rfl⟩) ?_
                rw [e3, zw_sI_s, styI, if_pos c', Nat.max_eq_right (Nat.le_of_lt c4)]
      refine down (S - 1) (by omega) k fr (fun t ht => ?_)
      rw [inv t ht, if_neg (by omega)]
  · intro i hi ih k fr inv
    refine rX8_most_12 ⟨fun c => ?_, fun _ => ⟨i, rfl, by omega, fun k2 e2 => ?_⟩⟩
    · have := zle c
      omega
    · rw [nI_1]
      refine ih k2 (fr.sI e2 rfl) (fun t ht => ?_)
      by_cases hx : t = i
      · rw [hx, e2, zw_sI_s]
        rfl
      · rw [e2, zw_sI_n (Or.inr hx)]
        exact inv t (by omega)
theorem m_transfers {h : zw_H} {A : zA} {r s : Int32} (W : RW h A) : zcI 3 mX8_transfers [.ref 56, .int r, .int s] h (opR h (gd (wr2 A.1 r s) (nI A.1.1 - nI (sty A.1.1 (rgt A.1 r) (rgt A.1 s) (kB A.1.1 (rgt A.1 r)) (2 ^ kB A.1.1 (rgt A.1 s) - 1))), A)) := by
  refine zcI_of rfl pn_X8 (fun _ => Nat.le_of_ble_eq_true rfl) rfl (rX8_transfers_0 (ca (c_X8_wrongOf W.1.1 W.2.2.1) ⟨fun c => ?_, fun c => ?_⟩))
  · obtain ⟨d1, d2⟩ := wr2_0 c
    obtain ⟨a, a1, a2, a3, a4⟩ := rgt_ok W.1.1 d1
    obtain ⟨b, b1, b2, b3, b4⟩ := rgt_ok W.1.1 d2
    rw [gd_0 c]
    refine ca (c_X8_heldR W.1.1 W.2.2.1 d1) (ca (c_X8_heldR W.1.1 W.2.2.1 d2) (cr (c_X8_most W.2.1 a4 b4) (fun x k rr => ⟨?_, W.fr (rr.2.mo (fun a b z => by unfold pS; omega)), rr.2.mo (fun a b z => by unfold pR; omega)⟩)))
    rw [rr.1, W.2.1.2.2.1]
  · rw [gd_f c]
    exact W.same _
/-- the sum of the disagreements with the registers of a set -/
def uAT (s : zS) (g set r : Nat) : Nat := if set.testBit r then unl s.1 g ((s.2.2.2.2.2.2 r).getD 0) s.1 else 0
def uAll (s : zS) (g set r : Nat) : Nat := fb_sm (uAT s g set) r
theorem unl_le {n a b : Nat} (h : n ≤ 6) : unl n a b n ≤ 36 := by
  have h1 := fb_sm_bound (f := fun i => unN n a b i i) (c := 6) (n := n) (fun k hk => fb_ct_6 (by omega))
  have : unl n a b n ≤ n * 6 := h1
  omega
theorem uAll_le {s : zS} {g set : Nat} (h : s.1 ≤ 6) (r : Nat) : uAll s g set r ≤ r * 36 := fb_sm_bound (fun k _ => by
  unfold uAT
  split
  · exact unl_le h
  · omega)
theorem c_X8_unlikeAll {h : zw_H} {s : zS} {g set : Nat} (V : SV s) (T : RT h s.1) (Pg : RP h s) (hg : g < kN s.1) (hs : set < 256) (full : ∀ r, r < 8 → set.testBit r = true → (s.2.2.2.2.2.2 r).isSome = true) : zpI 2 mX8_unlikeAll [.ref 56, .int (nI g), .int (nI set)] h (nI (uAll s g set 8)) := by
  refine zcI_of rfl pn_X8 (fun _ => Nat.le_of_ble_eq_true rfl) rfl (rX8_unlikeAll_0 ?_)
  generalize hr : nI (uAll s g set 8) = res
  refine lp_up (P := fun r => zwI 2 mX8_unlikeAll (fun x h' => x = res ∧ h' = h) 5 [(0, .ref 56), (1, .int (nI g)), (2, .int (nI set)), (3, .int (nI (uAll s g set r))), (4, .int (nI r))] [] h) (N := 8) ?_ ?_ 0 (by omega)
  · exact rX8_unlikeAll_5 ⟨fun _ => ⟨hr, rfl⟩, fun c => absurd (by decide) c⟩
  · intro r hr8 ih
    rw [uAll, fb_sm_succ] at ih
    refine rX8_unlikeAll_5 ⟨fun c => ?_, fun _ => ⟨fun c => ?_, fun c => ?_⟩⟩
    · have := zle (a := 8) c
      omega
    · have c' : ¬ set.testBit r = true := fun z => c ((zbit1 (by omega) (by omega)).mpr z)
      rw [uAT, if_neg c'] at ih
      rw [nI_1, Int32.add_zero]
      exact ih
    · have c' : set.testBit r = true := (zbit1 (by omega) (by omega)).mp c
      have hf := full r hr8 c'
      cases hx : s.2.2.2.2.2.2 r with
      | none => rw [hx] at hf; cases hf
      | some b =>
        have hb := V.2.2.2.2.2.2.2 r b hr8 hx
        have hh := c_X8_held Pg hr8
        rw [hx] at hh
        refine ca hh (ca (c_X8_unlike T hg hb) ?_)
        rw [uAT, if_pos c', hx] at ih
        rw [nI_add, nI_1]
        exact ih
/-- the median -/
def mdB (s : zS) (set : Nat) : Nat → Option Nat
  | 0 => none
  | g + 1 => if adm s g = true then (match mdB s set g with
    | none => some g
    | some b => if uAll s g set 8 < uAll s b set 8 then some g else some b) else mdB s set g
theorem mdB_lt {s : zS} {set : Nat} : ∀ {m b : Nat}, mdB s set m = some b → b < m ∧ adm s b = true
  | 0, _, h => by cases h
  | m + 1, b, h => by
    rw [mdB] at h
    by_cases ha : adm s m = true
    · rw [if_pos ha] at h
      cases hx : mdB s set m with
      | none =>
        rw [hx] at h
        cases h
        exact ⟨Nat.lt_succ_self _, ha⟩
      | some c =>
        have := mdB_lt hx
        rw [hx] at h
        dsimp only at h
        split at h
        · cases h
          exact ⟨Nat.lt_succ_self _, ha⟩
        · cases h
          exact ⟨by omega, this.2⟩
    · rw [if_neg ha] at h
      have := mdB_lt h
      exact ⟨by omega, this.2⟩
def mdL (s : zS) (set : Nat) (o : Option Nat) : Nat := match o with
  | none => 0
  | some b => uAll s b set 8
noncomputable def oM (A : zA) (v t : Int32) : Int32 × zA := by classical exact match ri 256 v, ri 8 t with
  | some set, some _ => if set = 0 then (-1, A) else if ∃ r, r < 8 ∧ set.testBit r = true ∧ A.1.2.2.2.2.2.2 r = none then (-2, A) else match mdB A.1 set (kN A.1.1) with
    | none => (-3, A)
    | some g => (nI (uAll A.1 g set 8), (oT A 0 t g).2)
  | _, _ => (-1, A)
theorem m_median {h : zw_H} {A : zA} {v t : Int32} (W : RW h A) : zcI 3 mX8_median [.ref 56, .int v, .int t] h (opR h (oM A v t)) := by
  classical
  have n1 := W.2.1.1
  have n2 := W.2.1.2.1
  have hN := (kN_le n1 n2).1
  have hin : (¬ v < 1 ∧ ¬ 255 < v) ↔ ∃ set, ri 256 v = some set ∧ set ≠ 0 := by
    have h1 := iR_in (x := v) (n := 256) (m := 255) (by omega) (by omega) rfl
    constructor
    · rintro ⟨a, b⟩
      obtain ⟨set, e⟩ := (ri_iR (by omega)).mp (h1.mpr ⟨fun z => a (by
        rw [Int32.lt_iff_toInt_lt] at z ⊢
        have e1 : (1 : Int32).toInt = 1 := by decide
        have e0 : (0 : Int32).toInt = 0 := by decide
        omega), b⟩)
      refine ⟨set, e, fun z => ?_⟩
      obtain ⟨_, rfl⟩ := ri_some e
      rw [z] at a
      exact a (by decide)
    · rintro ⟨set, e, hne⟩
      obtain ⟨s1, rfl⟩ := ri_some e
      refine ⟨fun z => ?_, (h1.mp ⟨set, s1, rfl⟩).2⟩
      have := zlt (b := 1) z
      omega
  refine zcI_of rfl pn_X8 (fun _ => Nat.le_of_ble_eq_true rfl) rfl (rX8_median_0 (ca (c_X8_in h _ _ _) ⟨fun c => ?_, fun c => ca (c_X8_isRegister h t) ⟨fun c2 => ?_, fun c2 => ?_⟩⟩))
  · have e : oM A v t = (-1, A) := by
      unfold oM
      cases hx : ri 256 v with
      | none => cases ri 8 t <;> rfl
      | some set =>
        have : set = 0 := Classical.byContradiction (fun z => bI_0.mp c (hin.mpr ⟨set, hx, z⟩))
        cases ri 8 t with
        | none => rfl
        | some _ => exact if_pos this
    rw [e]
    exact W.same _
  · obtain ⟨set, hx, hne⟩ := hin.mp (bI_yes c)
    obtain ⟨t', t1, rfl⟩ := bI_yes c2
    obtain ⟨s1, rfl⟩ := ri_some hx
    unfold oM
    rw [hx, ri_nI t1 (by omega)]
    dsimp only
    rw [if_neg hne]
    have key : ∀ r, r ≤ 8 → (∀ r', r' < r → set.testBit r' = true → (A.1.2.2.2.2.2.2 r').isSome = true) → zwI 3 mX8_median (opR h (if ∃ r, r < 8 ∧ set.testBit r = true ∧ A.1.2.2.2.2.2.2 r = none then (-2, A) else match mdB A.1 set (kN A.1.1) with
    | none => (-3, A)
    | some g => (nI (uAll A.1 g set 8), (oT A 0 (nI t') g).2))) 22 [(0, .ref 56), (1, .int (nI set)), (2, .int (nI t')), (3, .int (nI r))] [] h := by
      refine lp_up ?_ ?_
      · intro full
        have no : ¬ ∃ r, r < 8 ∧ set.testBit r = true ∧ A.1.2.2.2.2.2.2 r = none := by
          rintro ⟨r, r1, r2, r3⟩
          have := full r r1 r2
          rw [r3] at this
          cases this
        rw [if_neg no]
        refine rX8_median_22 ⟨fun _ => ?_, fun c => absurd (by decide) c⟩
        generalize hQ : opR h (match mdB A.1 set (kN A.1.1) with
          | none => (-3, A)
          | some g => (nI (uAll A.1 g set 8), (oT A 0 (nI t') g).2)) = Q
        refine lp_up (P := fun g => zwI 3 mX8_median Q 65 [(0, .ref 56), (1, .int (nI set)), (2, .int (nI t')), (3, .int (enc1 (mdB A.1 set g))), (4, .int (nI (mdL A.1 set (mdB A.1 set g)))), (5, .int (nI g))] [] h) (N := kN A.1.1) ?_ ?_ 0 (by omega)
        · refine rX8_median_65 ⟨fun _ => ⟨fun c => ?_, fun c => ?_⟩, fun c => absurd (by rw [W.2.1.2.2.2.1]; exact nI_le (Nat.le_refl _) (by omega)) c⟩
          · cases hb : mdB A.1 set (kN A.1.1) with
            | none => rw [hb] at c; exact absurd rfl c
            | some g =>
              have hg := mdB_lt hb
              rw [hb] at hQ
              dsimp only at hQ
              refine cr (c_X8_puts W t1 hg.1) (fun x k r => ?_)
              rw [← hQ]
              refine ⟨rfl, ?_, r.2.2⟩
              rw [oT_0 t1]
              exact r.2.1
          · cases hb : mdB A.1 set (kN A.1.1) with
            | none =>
              rw [hb] at hQ
              rw [← hQ]
              exact W.same _
            | some g =>
              have hg := mdB_lt hb
              rw [hb] at c
              exact absurd c (nI_9 (by omega))
        · intro g hg ih
          have hu := uAll_le (g := g) (set := set) n2 8
          refine rX8_median_65 ⟨fun c => ?_, fun _ => ca (c_X8_isAdmitted W.2.1 W.2.2.2.1 hg) ⟨fun c => ca (c_X8_isAdmitted W.2.1 W.2.2.2.1 hg) ⟨fun _ => ?_, fun c' => absurd c c'⟩, fun c => ca (c_X8_unlikeAll W.1.1 W.2.1 W.2.2.1 hg (by omega) (fun r r8 => full r r8)) (ca (c_X8_isAdmitted W.2.1 W.2.2.2.1 hg) ⟨fun c' => absurd c' c, fun _ => ⟨fun c2 => ?_, fun c2 => ⟨fun c3 => ?_, fun c3 => ?_⟩⟩⟩)⟩⟩
          · rw [W.2.1.2.2.2.1] at c
            have := zle c
            omega
          · rw [mdB, if_neg (bI_0.mp c)] at ih
            rw [nI_1]
            exact ih
          · rw [mdB, if_pos (bI_yes c)] at ih
            cases hb : mdB A.1 set g with
            | none =>
              rw [hb] at ih
              rw [nI_1]
              exact ih
            | some b =>
              have hg := mdB_lt hb
              rw [hb] at c2
              exact absurd c2 (nI_9 (by omega))
          · rw [mdB, if_pos (bI_yes c)] at ih
            cases hb : mdB A.1 set g with
            | none => rw [hb] at c2; exact absurd rfl c2
            | some b =>
              have hu2 := uAll_le (g := b) (set := set) n2 8
              rw [hb] at ih c3
              have c4 : uAll A.1 b set 8 ≤ uAll A.1 g set 8 := zle c3
              dsimp only at ih
              rw [if_neg (by omega)] at ih
              rw [nI_1]
              exact ih
          · rw [mdB, if_pos (bI_yes c)] at ih
            cases hb : mdB A.1 set g with
            | none => rw [hb] at c2; exact absurd rfl c2
            | some b =>
              have hu2 := uAll_le (g := b) (set := set) n2 8
              rw [hb] at ih c3
              have c4 : uAll A.1 g set 8 < uAll A.1 b set 8 := znle c3
              dsimp only at ih
              rw [if_pos c4] at ih
              rw [nI_1]
              exact ih
      · intro r hr ih full
        have go : (set.testBit r = true → (A.1.2.2.2.2.2.2 r).isSome = true) → ∀ r', r' < r + 1 → set.testBit r' = true → (A.1.2.2.2.2.2.2 r').isSome = true := fun q r' h1 => by
          by_cases hx : r' = r
          · rw [hx]; exact q
          · exact full r' (by omega)
        refine rX8_median_22 ⟨fun c => ?_, fun _ => ⟨fun c => ?_, fun c => ca (c_X8_held W.2.2.1 hr) ⟨fun c4 => ?_, fun c4 => ?_⟩⟩⟩
        · have := zle (a := 8) c
          omega
        · rw [nI_1]
          exact ih (go (fun z => absurd ((zbit1 (by omega) (by omega)).mpr z) c))
        · rw [nI_1]
          exact ih (go (fun _ => Classical.byContradiction (fun z => c4 ((reg_9 W.1.1 hr).mpr z))))
        · have := (reg_9 W.1.1 hr).mp c4
          rw [if_pos ⟨r, hr, (zbit1 (by omega) (by omega)).mp c, none_some.mpr this⟩]
          exact W.same _
    exact key 0 (by omega) (fun _ h => absurd h (by omega))
  · have e : oM A v t = (-1, A) := by
      unfold oM
      rw [(ri_none (r := t) (by omega)).mpr (bI_0.mp c2)]
      cases ri 256 v <;> rfl
    rw [e]
    exact W.same _
