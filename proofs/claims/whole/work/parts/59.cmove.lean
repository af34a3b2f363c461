def mvF (n g : Nat) (im : Nat → Nat) : Nat → Nat
  | 0 => 0
  | p + 1 => if (km n g).testBit p = true then mvF n g im p ||| pbit (im (kI p)) (im (kJ p)) else mvF n g im p
theorem pbit_lt {a b : Nat} (ha : a < 6) (hb : b < 6) : pbit a b < 2 ^ 15 := by
  by_cases h : a = b
  · unfold pbit
    rw [if_pos h]
    decide
  · rw [pbit_kpp h]
    exact Nat.pow_lt_pow_right (by decide) (kpp_lt ha hb h)
theorem mvF_lt {n g : Nat} {im : Nat → Nat} (hi : ∀ e, e < 6 → im e < 6) : ∀ p, p ≤ 15 → mvF n g im p < 2 ^ 15
  | 0, _ => by show 0 < 2 ^ 15; decide
  | p + 1, hp => by
    have h := mvF_lt (n := n) (g := g) hi p (by omega)
    obtain ⟨_, _, i1, i2, _⟩ := kIJ p (by omega)
    rw [mvF]
    split
    · exact Nat.or_lt_two_pow h (pbit_lt (hi _ (by omega)) (hi _ i2))
    · exact h
theorem mvF_bit {n g : Nat} {im : Nat → Nat} (q : Nat) : ∀ p, (mvF n g im p).testBit q = true ↔ ∃ p', p' < p ∧ (km n g).testBit p' = true ∧ (pbit (im (kI p')) (im (kJ p'))).testBit q = true
  | 0 => ⟨fun h => (by rw [mvF, Nat.zero_testBit] at h; cases h), fun ⟨_, h, _⟩ => absurd h (by omega)⟩
  | p + 1 => by
    have ih := mvF_bit (n := n) (g := g) (im := im) q p
    rw [mvF]
    by_cases hb : (km n g).testBit p = true
    · rw [if_pos hb, Nat.testBit_or, Bool.or_eq_true, ih]
      constructor
      · rintro (⟨p', h1, h2⟩ | h)
        · exact ⟨p', by omega, h2⟩
        · exact ⟨p, by omega, hb, h⟩
      · rintro ⟨p', h1, h2, h3⟩
        by_cases hx : p' = p
        · rw [hx] at h3
          exact Or.inr h3
        · exact Or.inl ⟨p', by omega, h2, h3⟩
    · rw [if_neg hb, ih]
      constructor
      · rintro ⟨p', h1, h2⟩
        exact ⟨p', by omega, h2⟩
      · rintro ⟨p', h1, h2, h3⟩
        by_cases hx : p' = p
        · rw [hx] at h2
          exact absurd h2 hb
        · exact ⟨p', by omega, h2, h3⟩
theorem kpp_comm (a b : Nat) (h : a ≠ b) : kpp a b = kpp b a := by
  unfold kpp
  by_cases hx : a < b
  · rw [if_pos hx, if_neg (by omega)]
  · rw [if_neg hx, if_pos (by omega)]
theorem kpp_inj {a b i j : Nat} (ha : a < 6) (hb : b < 6) (h : a ≠ b) (hij : i < j) (hj : j < 6) (e : kpp a b = kp i j) : a = i ∧ b = j ∨ a = j ∧ b = i := by
  unfold kpp at e
  split at e
  · exact Or.inl (kp_inj (by omega) hb hij hj e)
  · have := kp_inj (p := b) (q := a) (by omega) ha hij hj e
    exact Or.inr ⟨this.2, this.1⟩
/-- what moving the elements comes to -/
theorem mvF_km {n g : Nat} {im iv : Nat → Nat} (n1 : 1 ≤ n) (n2 : n ≤ 6) (hg : g < kN n) (hi : ∀ e, e < 6 → im e < 6) (h1 : ∀ e, e < n → im e < n ∧ iv (im e) = e) (h2 : ∀ a, a < n → iv a < n ∧ im (iv a) = a) : mvF n g im 15 = km n (canon n (fun e => ks n g (iv e))) := by
  refine km_canon n1 n2 (mvF_lt hi 15 (Nat.le_refl _)) (fun i j hij hj => ?_)
  rw [mvF_bit]
  constructor
  · rintro ⟨p, hp, hb, hq⟩
    obtain ⟨_, _, i1, i2, i3⟩ := kIJ p hp
    have hk := km_bit n1 n2 hg i1 i2
    rw [i3, hb] at hk
    have hk := hk.symm
    simp only [Bool.and_eq_true, decide_eq_true_eq] at hk
    obtain ⟨a1, a2⟩ := h1 (kI p) (by omega)
    obtain ⟨b1, b2⟩ := h1 (kJ p) hk.1
    have hne : im (kI p) ≠ im (kJ p) := fun z => by
      rw [z, b2] at a2
      omega
    rw [pbit_kpp hne, Nat.testBit_two_pow, decide_eq_true_eq] at hq
    rcases kpp_inj (by omega) (by omega) hne hij hj hq with ⟨x, y⟩ | ⟨x, y⟩
    · rw [← x, ← y, a2, b2]
      exact ⟨b1, hk.2⟩
    · rw [← x, ← y, a2, b2]
      exact ⟨a1, hk.2.symm⟩
  · rintro ⟨hjn, e⟩
    obtain ⟨x1, x2⟩ := h2 i (by omega)
    obtain ⟨y1, y2⟩ := h2 j hjn
    have hne : iv i ≠ iv j := fun z => by
      rw [z, y2] at x2
      omega
    have key : ∀ u v, u < v → v < n → ks n g u = ks n g v → (im u = i ∧ im v = j ∨ im u = j ∧ im v = i) → ∃ p', p' < 15 ∧ (km n g).testBit p' = true ∧ (pbit (im (kI p')) (im (kJ p'))).testBit (kp i j) = true := fun u v huv hv hs hc => by
      obtain ⟨q1, q2⟩ := kIJ_kp v (by omega) u huv
      refine ⟨kp u v, kp_lt u (by omega) v (by omega) huv, ?_, ?_⟩
      · rw [km_bit n1 n2 hg huv (by omega)]
        simp [hv, hs]
      · rw [q1, q2]
        have hne2 : im u ≠ im v := by omega
        rw [pbit_kpp hne2, Nat.testBit_two_pow, decide_eq_true_eq]
        rcases hc with ⟨z1, z2⟩ | ⟨z1, z2⟩
        · rw [z1, z2]
          unfold kpp
          rw [if_pos hij]
        · rw [z1, z2]
          unfold kpp
          rw [if_neg (by omega)]
    rcases Nat.lt_or_ge (iv i) (iv j) with hl | hl
    · exact key _ _ hl y1 e (Or.inl ⟨x2, y2⟩)
    · exact key _ _ (by omega) x1 e.symm (Or.inr ⟨y2, x2⟩)
theorem c_X7_moveElements {h k : zw_H} {A : zA} {r : Int32} {im iv : Nat → Nat} (W : CW k A) (F : Fr pC h k) (hw : wr1 A.1 r = 0) (row : ∀ e, e < 6 → k.1 54 e = nI (im e)) (hi : ∀ e, e < 6 → im e < 6) (h1 : ∀ e, e < A.1.1 → im e < A.1.1 ∧ iv (im e) = e) (h2 : ∀ a, a < A.1.1 → iv a < A.1.1 ∧ im (iv a) = a) : zcI 5 mX7_moveElements [.ref 0, .int r] k (opC h (oC A 0 r (canon A.1.1 (fun e => ks A.1.1 (rgt A.1 r) (iv e))))) := by
  have n1 := W.1.1.1
  have n2 := W.1.1.2.1
  obtain ⟨a, a1, a2, a3, a4, a5⟩ := W.reg hw
  have hm := km_lt n1 n2 a4
  have mk := mvF_km n1 n2 a4 hi h1 h2
  obtain ⟨cg, _⟩ := canon_spec (fun e => ks A.1.1 (rgt A.1 r) (iv e)) n1 n2
  generalize hg' : canon A.1.1 (fun e => ks A.1.1 (rgt A.1 r) (iv e)) = g' at *
  refine zcI_of rfl pn_X7 (fun _ => Nat.le_of_ble_eq_true rfl) rfl (rX7_moveElements_0 ⟨a, a2, a1, ?_⟩)
  rw [a5]
  generalize hQ : opC h (oC A 0 r g') = Q
  refine lp_up (P := fun p => zwI 5 mX7_moveElements Q 15 [(0, .ref 0), (1, .int r), (2, .int (nI (km A.1.1 (rgt A.1 r)))), (3, .int (nI (mvF A.1.1 (rgt A.1 r) im p))), (4, .int (nI p))] [] k) (N := 15) ?_ ?_ 0 (by omega)
  · refine rX7_moveElements_15 ⟨fun _ => ?_, fun c => absurd (by decide) c⟩
    rw [mk]
    have hp := c_put (h := h) W F a1 cg
    rw [← a2] at hp
    obtain ⟨q, q1, q2⟩ := hp
    refine ⟨q, q1, fun x k1 hx => ?_⟩
    obtain ⟨z1, z2, z3⟩ := q2 x k1 hx
    have hm2 := km_lt n1 n2 cg
    have e : oC A 0 r g' = (bI (g' ≠ rgt A.1 r), (oT A 0 r g').2) := if_pos rfl
    rw [← hQ, e]
    refine ⟨fun c => ⟨?_, z2, z3⟩, fun c => ⟨?_, z2, z3⟩⟩
    · exact (bI_f (fun z => z (km_inj n1 n2 cg a4 (zeq c)))).symm
    · exact (bI_t (fun z => c (by rw [z]))).symm
  · intro p hp ih
    obtain ⟨s1, s2, i1, i2, i3⟩ := kIJ p hp
    rw [mvF] at ih
    refine rX7_moveElements_15 ⟨fun c => ?_, fun _ => ⟨fun c => ?_, fun c => ⟨p, rfl, hp, kI p, s1, by omega, p, rfl, hp, kJ p, s2, i2, ?_⟩⟩⟩
    · have := zle (a := 15) c
      omega
    · have c' := (zbit0 (by omega) (by omega)).mp c
      rw [if_neg (by rw [c']; decide)] at ih
      rw [nI_1]
      exact ih
    · have c' : (km A.1.1 (rgt A.1 r)).testBit p = true := by
        cases hx : (km A.1.1 (rgt A.1 r)).testBit p with
        | true => rfl
        | false => exact absurd ((zbit0 (by omega) (by omega)).mpr hx) c
      rw [if_pos c'] at ih
      rw [row _ (by omega), row _ i2]
      refine ca (c_X7_pairBit k (hi _ (by omega)) (hi _ i2)) ?_
      rw [zor, nI_1]
      exact ih
theorem m7_swap {h : zw_H} {A : zA} {r i j : Int32} (W : CW h A) : zcI 6 mX7_swap [.ref 0, .int r, .int i, .int j] h (opC h (oC A (wrE A.1 r i j) r (canon A.1.1 (fun e => ks A.1.1 (rgt A.1 r) (if e = el A.1.1 i then el A.1.1 j else if e = el A.1.1 j then el A.1.1 i else e))))) := by
  have n1 := W.1.1.1
  have n2 := W.1.1.2.1
  refine zcI_of rfl pn_X7 (fun _ => Nat.le_of_ble_eq_true rfl) rfl (rX7_swap_0 (ca (c_X7_isElement W) ⟨fun c => ca (c_X7_faultOf W) ⟨fun c2 => ?_, fun _ => ?_⟩, fun c => ca (c_X7_isElement W) ⟨fun c2 => ca (c_X7_faultOf W) ⟨fun c3 => ?_, fun _ => ?_⟩, fun c2 => ca (c_X7_faultOf W) ⟨fun c3 => ?_, fun c3 => ?_⟩⟩⟩))
  · rw [fo_0] at c2
    exact absurd c2 (by decide)
  · have e := wrE_1 (r := r) (j := j) n2 (bI_0.mp c)
    rw [e, oC_f (by decide), fo_0]
    exact W.same _
  · rw [fo_0] at c3
    exact absurd c3 (by decide)
  · have e := wrE_2 (r := r) (i := i) n2 (bI_0.mp c2)
    rw [e, oC_f (by decide), fo_0]
    exact W.same _
  · obtain ⟨x, hx, rfl⟩ := bI_yes c
    obtain ⟨y, hy, rfl⟩ := bI_yes c2
    rw [fo_1, wr2_self] at c3
    rw [wrE_nI n2 hx hy, el_nI n2 hx, el_nI n2 hy, c3]
    refine lp_up (P := fun e => ∀ k, Fr (fun a _ => a = 54) h k → (∀ e', e' < e → k.1 54 e' = nI (if e' = x then y else if e' = y then x else e')) → zwI 6 mX7_swap (opC h (oC A 0 r (canon A.1.1 (fun e => ks A.1.1 (rgt A.1 r) (if e = x then y else if e = y then x else e))))) 40 [(0, .ref 0), (1, .int r), (2, .int (nI x)), (3, .int (nI y)), (5, .int (nI e))] [] k) (N := 6) ?_ ?_ 0 (by omega) h Fr.rf (fun _ h => absurd h (by omega))
    · intro k fr row
      refine rX7_swap_40 ⟨fun _ => cr (c_X7_moveElements (iv := fun e => if e = x then y else if e = y then x else e) (W.fr (fr.mo (fun a b z => by unfold pQ; omega))) (fr.mo (fun a b z => by unfold pC; omega)) c3 row (fun e he => ?_) (fun e he => ?_) (fun e he => ?_)) (fun _ _ z => z), fun c => absurd (by decide) c⟩
      · split <;> (try split) <;> omega
      · refine ⟨by split <;> (try split) <;> omega, ?_⟩
        by_cases h1 : e = x
        · rw [if_pos h1]
          by_cases h2 : y = x
          · rw [if_pos h2]; omega
          · rw [if_neg h2, if_pos rfl]; omega
        · rw [if_neg h1]
          by_cases h2 : e = y
          · rw [if_pos h2, if_pos rfl]; omega
          · rw [if_neg h2, if_neg h1, if_neg h2]
      · refine ⟨by split <;> (try split) <;> omega, ?_⟩
        by_cases h1 : e = x
        · rw [if_pos h1]
          by_cases h2 : y = x
          · rw [if_pos h2]; omega
          · rw [if_neg h2, if_pos rfl]; omega
        · rw [if_neg h1]
          by_cases h2 : e = y
          · rw [if_pos h2, if_pos rfl]; omega
          · rw [if_neg h2, if_neg h1, if_neg h2]
    · intro e he ih k fr row
      have go : ∀ k2 v, v = nI (if e = x then y else if e = y then x else e) → k2 = zw_sI k 54 e v → zwI 6 mX7_swap (opC h (oC A 0 r (canon A.1.1 (fun e => ks A.1.1 (rgt A.1 r) (if e = x then y else if e = y then x else e))))) 40 [(0, .ref 0), (1, .int r), (2, .int (nI x)), (3, .int (nI y)), (5, .int (nI e + 1))] [] k2 := fun k2 v ev e2 => by
        rw [nI_1]
        refine ih k2 (fr.sI e2 rfl) (fun e' he' => ?_)
        by_cases hx : e' = e
        · rw [hx, e2, zw_sI_s, ev]
        · rw [e2, zw_sI_n (Or.inr hx)]
          exact row e' (by omega)
      refine rX7_swap_40 ⟨fun c => ?_, fun _ => ⟨fun c => ⟨fun c2 => ⟨e, rfl, he, fun k2 e2 => go k2 _ ?_ e2⟩, fun c2 => ⟨e, rfl, he, fun k2 e2 => go k2 _ ?_ e2⟩⟩, fun c => ⟨e, rfl, he, fun k2 e2 => go k2 _ ?_ e2⟩⟩⟩
      · have := zle (a := 6) c
        omega
      · rw [if_neg (zne c), if_neg (zne c2)]
      · rw [if_neg (zne c), if_pos (zeq c2)]
      · rw [if_pos (zeq c)]
  · obtain ⟨x, hx, rfl⟩ := bI_yes c
    obtain ⟨y, hy, rfl⟩ := bI_yes c2
    rw [fo_1, wr2_self] at c3
    rw [wrE_nI n2 hx hy, oC_f c3, fo_1, wr2_self]
    exact W.same _
theorem m7_rotate {h : zw_H} {A : zA} {r : Int32} (W : CW h A) : zcI 6 mX7_rotate [.ref 0, .int r] h (opC h (oC A (wr1 A.1 r) r (canon A.1.1 (fun e => ks A.1.1 (rgt A.1 r) ((e + A.1.1 - 1) % A.1.1))))) := by
  have n1 := W.1.1.1
  have n2 := W.1.1.2.1
  refine zcI_of rfl pn_X7 (fun _ => Nat.le_of_ble_eq_true rfl) rfl (rX7_rotate_0 (ca (c_X7_faultOf W) ⟨fun c => ?_, fun c => ?_⟩))
  · rw [fo_1, wr2_self] at c
    rw [c]
    refine lp_up (P := fun e => ∀ k, Fr (fun a _ => a = 54) h k → (∀ e', e' < e → k.1 54 e' = nI (if e' + 1 < A.1.1 then e' + 1 else 0)) → zwI 6 mX7_rotate (opC h (oC A 0 r (canon A.1.1 (fun e => ks A.1.1 (rgt A.1 r) ((e + A.1.1 - 1) % A.1.1))))) 16 [(0, .ref 0), (1, .int r), (3, .int (nI e))] [] k) (N := 6) ?_ ?_ 0 (by omega) h Fr.rf (fun _ h => absurd h (by omega))
    · intro k fr row
      refine rX7_rotate_16 ⟨fun _ => cr (c_X7_moveElements (iv := fun e => (e + A.1.1 - 1) % A.1.1) (W.fr (fr.mo (fun a b z => by unfold pQ; omega))) (fr.mo (fun a b z => by unfold pC; omega)) c row (fun e he => ?_) (fun e he => ?_) (fun e he => ?_)) (fun _ _ z => z), fun c => absurd (by decide) c⟩
      · split <;> omega
      · refine ⟨by split <;> omega, ?_⟩
        by_cases h1 : e + 1 < A.1.1
        · rw [if_pos h1, show e + 1 + A.1.1 - 1 = e + A.1.1 by omega, Nat.add_mod_right, Nat.mod_eq_of_lt he]
        · rw [if_neg h1, Nat.zero_add, Nat.mod_eq_of_lt (by omega)]
          omega
      · by_cases h1 : e = 0
        · rw [h1, Nat.zero_add, Nat.mod_eq_of_lt (by omega)]
          exact ⟨by omega, by rw [if_neg (by omega)]⟩
        · rw [show e + A.1.1 - 1 = (e - 1) + A.1.1 by omega, Nat.add_mod_right, Nat.mod_eq_of_lt (by omega)]
          exact ⟨by omega, by rw [if_pos (by omega)]; omega⟩
    · intro e he ih k fr row
      have W1 : CW k A := W.fr (fr.mo (fun a b z => by unfold pQ; omega))
      have go : ∀ k2 v, v = nI (if e + 1 < A.1.1 then e + 1 else 0) → k2 = zw_sI k 54 e v → zwI 6 mX7_rotate (opC h (oC A 0 r (canon A.1.1 (fun e => ks A.1.1 (rgt A.1 r) ((e + A.1.1 - 1) % A.1.1))))) 16 [(0, .ref 0), (1, .int r), (3, .int (nI e + 1))] [] k2 := fun k2 v ev e2 => by
        rw [nI_1]
        refine ih k2 (fr.sI e2 rfl) (fun e' he' => ?_)
        by_cases hx : e' = e
        · rw [hx, e2, zw_sI_s, ev]
        · rw [e2, zw_sI_n (Or.inr hx)]
          exact row e' (by omega)
      refine rX7_rotate_16 ⟨fun c => ?_, fun _ => ?_⟩
      · have := zle (a := 6) c
        omega
      rw [W1.2.2.1.1]
      refine ⟨fun c => ⟨e, rfl, he, fun k2 e2 => go k2 _ ?_ e2⟩, fun c => ⟨e, rfl, he, fun k2 e2 => go k2 _ ?_ e2⟩⟩
      · rw [nI_1] at c
        have := zle c
        rw [if_neg (by omega)]
        rfl
      · rw [nI_1] at c
        have := znle c
        rw [nI_1, if_pos this]
  · rw [fo_1, wr2_self] at c ⊢
    rw [oC_f c]
    exact W.same _
/-- whether a pair is split by the elements low + 1 to high -/
def spl (n g low high p : Nat) : Prop := (km n g).testBit p = true ∧ ¬ ((low < kI p ∧ kI p ≤ high) ↔ (low < kJ p ∧ kJ p ≤ high))
theorem c_X7_isSplit {h : zw_H} {n g i j : Nat} (n1 : 1 ≤ n) (n2 : n ≤ 6) (hg : g < kN n) (hi : i < 100) (hj : j < 100) : zpI 0 mX7_isSplit [.int (nI (km n g)), .int (nI i), .int (nI j)] h (bI (∃ p, p < 15 ∧ spl n g i j p)) := by
  have hm := km_lt n1 n2 hg
  refine zcI_of rfl pn_X7 (fun _ => Nat.le_of_ble_eq_true rfl) rfl (rX7_isSplit_0 ?_)
  generalize hr : bI (∃ p, p < 15 ∧ spl n g i j p) = res
  refine lp_up (P := fun p => (∀ p', p' < p → ¬ spl n g i j p') → zwI 0 mX7_isSplit (fun x h' => x = res ∧ h' = h) 2 [(0, .int (nI (km n g))), (1, .int (nI i)), (2, .int (nI j)), (3, .int (nI p))] [] h) (N := 15) ?_ ?_ 0 (by omega) (fun _ h => absurd h (by omega))
  · intro inv
    refine rX7_isSplit_2 ⟨fun _ => ⟨?_, rfl⟩, fun c => absurd (by decide) c⟩
    rw [← hr, bI_f]
    rintro ⟨p, h1, h2⟩
    exact inv p h1 h2
  · intro p hp ih inv
    obtain ⟨s1, s2, i1, i2, i3⟩ := kIJ p hp
    have N : ¬ spl n g i j p → zwI 0 mX7_isSplit (fun x h' => x = res ∧ h' = h) 2 [(0, .int (nI (km n g))), (1, .int (nI i)), (2, .int (nI j)), (3, .int (nI p + 1))] [] h := fun no => by
      rw [nI_1]
      refine ih (fun p' hp' => ?_)
      by_cases hx : p' = p
      · rw [hx]; exact no
      · exact inv p' (by omega)
    have Y : spl n g i j p → (1 : Int32) = res ∧ h = h := fun y => ⟨by rw [← hr]; exact (bI_t ⟨p, hp, y⟩).symm, rfl⟩
    have B0 : ((nI (km n g) >>> (nI p &&& 31)) &&& 1) = 0 → ¬ spl n g i j p := fun c z => by
      have c' := (zbit0 (by omega) (by omega)).mp c
      have z1 := z.1
      rw [c'] at z1
      cases z1
    have B1 : ¬ ((nI (km n g) >>> (nI p &&& 31)) &&& 1) = 0 → (km n g).testBit p = true := fun c => by
      cases hx : (km n g).testBit p with
      | true => rfl
      | false => exact absurd ((zbit0 (by omega) (by omega)).mpr hx) c
    refine rX7_isSplit_2 ⟨fun c => ?_, fun _ => ⟨p, rfl, hp, ?_⟩⟩
    · have := zle (a := 15) c
      omega
    have lowS : ∀ x : Nat, x < 100 → (nI x ≤ nI i ↔ x ≤ i) := fun x hx => nI_leI (by omega) (by omega)
    have highS : ∀ x : Nat, x < 100 → (nI j < nI x ↔ j < x) := fun x hx => nI_ltI (by omega) (by omega)
    have lI := lowS _ (show kI p < 100 by omega)
    have lJ := lowS _ (show kJ p < 100 by omega)
    have hI := highS _ (show kI p < 100 by omega)
    have hJ := highS _ (show kJ p < 100 by omega)
    rw [s1, lI]
    refine ⟨fun a => ⟨p, rfl, hp, ?_⟩, fun a => ⟨p, rfl, hp, ?_⟩⟩
    · rw [s2, lJ]
      refine ⟨fun b => ⟨fun c => N (B0 c), fun c => ⟨fun _ => N (fun z => z.2 (by omega)), fun z => absurd rfl z⟩⟩, fun b => ⟨p, rfl, hp, ?_⟩⟩
      rw [s2, hJ]
      exact ⟨fun d => ⟨fun c => N (B0 c), fun c => ⟨fun _ => N (fun z => z.2 (by omega)), fun z => absurd rfl z⟩⟩, fun d => ⟨fun c => N (B0 c), fun c => ⟨fun z => absurd z (by decide), fun _ => Y ⟨B1 c, by omega⟩⟩⟩⟩
    · rw [s1, hI]
      refine ⟨fun b => ⟨p, rfl, hp, ?_⟩, fun b => ⟨p, rfl, hp, ?_⟩⟩
      · rw [s2, lJ]
        refine ⟨fun d => ⟨fun c => N (B0 c), fun c => ⟨fun _ => N (fun z => z.2 (by omega)), fun z => absurd rfl z⟩⟩, fun d => ⟨p, rfl, hp, ?_⟩⟩
        rw [s2, hJ]
        exact ⟨fun e => ⟨fun c => N (B0 c), fun c => ⟨fun _ => N (fun z => z.2 (by omega)), fun z => absurd rfl z⟩⟩, fun e => ⟨fun c => N (B0 c), fun c => ⟨fun z => absurd z (by decide), fun _ => Y ⟨B1 c, by omega⟩⟩⟩⟩
      · rw [s2, lJ]
        refine ⟨fun d => ⟨fun c => N (B0 c), fun c => ⟨fun z => absurd z (by decide), fun _ => Y ⟨B1 c, by omega⟩⟩⟩, fun d => ⟨p, rfl, hp, ?_⟩⟩
        rw [s2, hJ]
        exact ⟨fun e => ⟨fun c => N (B0 c), fun c => ⟨fun z => absurd z (by decide), fun _ => Y ⟨B1 c, by omega⟩⟩⟩, fun e => ⟨fun c => N (B0 c), fun c => ⟨fun _ => N (fun z => z.2 (by omega)), fun z => absurd rfl z⟩⟩⟩
/-- it's split iff it isn't parted -/
theorem spl_prt {n g i j : Nat} (n1 : 1 ≤ n) (n2 : n ≤ 6) (hg : g < kN n) (hj : j < n) : (∃ p, p < 15 ∧ spl n g i j p) ↔ ¬ prt n g i j := by
  constructor
  · rintro ⟨p, hp, hb, hd⟩ hprt
    obtain ⟨_, _, i1, i2, i3⟩ := kIJ p hp
    have hk := km_bit n1 n2 hg i1 i2
    rw [i3, hb] at hk
    have hk := hk.symm
    simp only [Bool.and_eq_true, decide_eq_true_eq] at hk
    apply hd
    constructor
    · intro z
      exact hprt (kI p) (kJ p) z.1 z.2 hk.1 hk.2
    · intro z
      exact hprt (kJ p) (kI p) z.1 z.2 (by omega) hk.2.symm
  · intro hprt
    apply Classical.byContradiction
    intro hne
    apply hprt
    intro e f h1 h2 h3 h4
    apply Classical.byContradiction
    intro h5
    have hef : e ≠ f := fun z => h5 (by rw [← z]; exact ⟨h1, h2⟩)
    apply hne
    rcases Nat.lt_or_ge e f with hl | hl
    · obtain ⟨q1, q2⟩ := kIJ_kp f (by omega) e hl
      refine ⟨kp e f, kp_lt e (by omega) f (by omega) hl, ?_, ?_⟩
      · rw [km_bit n1 n2 hg hl (by omega)]
        simp [h3, h4]
      · rw [q1, q2]
        exact fun z => h5 (z.mp ⟨h1, h2⟩)
    · have hl : f < e := by omega
      obtain ⟨q1, q2⟩ := kIJ_kp e (by omega) f hl
      refine ⟨kp f e, kp_lt f (by omega) e (by omega) hl, ?_, ?_⟩
      · rw [km_bit n1 n2 hg hl (by omega)]
        simp [show e < n by omega, h4]
      · rw [q1, q2]
        exact fun z => h5 (z.mpr ⟨h1, h2⟩)
/-- from the same element they're parted -/
theorem fpt_iff {n g i j : Nat} (hij : i < j) (hj : j < n) : fpt n g i = fpt n g j ↔ prt n g i j := by
  have A1 : ∀ a b c, prt n g a b → prt n g b c → a ≤ b → b ≤ c → prt n g a c := fun a b c h1 h2 h3 h4 e f e1 e2 hf es => by
    rcases Nat.lt_or_ge b e with h | h
    · have := h2 e f h e2 hf es
      omega
    · have := h1 e f e1 h hf es
      omega
  have A2 : ∀ a b c, prt n g a c → prt n g b c → a ≤ b → b ≤ c → c < n → prt n g a b := fun a b c h1 h2 h3 h4 hc e f e1 e2 hf es => by
    have x := h1 e f e1 (by omega) hf es
    rcases Nat.lt_or_ge b f with h | h
    · have := h2 f e h x.2 (by omega) es.symm
      omega
    · exact ⟨x.1, h⟩
  have A3 : ∀ a b c, prt n g a b → prt n g a c → a ≤ b → b ≤ c → c < n → prt n g b c := fun a b c h1 h2 h3 h4 hc e f e1 e2 hf es => by
    have x := h2 e f (by omega) e2 hf es
    rcases Nat.lt_or_ge b f with h | h
    · exact ⟨h, x.2⟩
    · have := h1 f e x.1 h (by omega) es.symm
      omega
  have F : ∀ c, prt n g (fpt n g c) c ∧ ∀ k, k < fpt n g c → ¬ prt n g k c := fun c => by
    unfold fpt
    cases hx : fs (fun i => dB (prt n g i c)) 0 c with
    | none =>
      have h := fs_none.mp hx
      refine ⟨fun e f e1 e2 _ _ => ?_, fun k hk => dB_f.mp (h k (by omega) (by show k < 0 + c; simpa using hk))⟩
      have e1 : c < e := e1
      omega
    | some b =>
      obtain ⟨_, h2, h3, h4⟩ := fs_some hx
      exact ⟨dB_t.mp h3, fun k hk => dB_f.mp (h4 k (by omega) hk)⟩
  obtain ⟨i1, i2⟩ := F i
  obtain ⟨j1, j2⟩ := F j
  have li := fpt_le n g i
  have lj := fpt_le n g j
  constructor
  · intro e
    rw [← e] at j1
    exact A3 _ i j i1 j1 li (by omega) hj
  · intro hp
    have x1 : fpt n g j ≤ fpt n g i := Nat.le_of_not_lt (fun z => j2 _ z (A1 _ i j i1 hp li (by omega)))
    have x2 : fpt n g i ≤ fpt n g j := Nat.le_of_not_lt (fun z => i2 _ z (A2 _ i j j1 hp (by omega) (by omega) hj))
    omega
noncomputable def cmF (n g : Nat) : Nat → Nat
  | 0 => 0
  | p + 1 => by classical exact if kJ p < n ∧ prt n g (kI p) (kJ p) then cmF n g p ||| 2 ^ p else cmF n g p
theorem cmF_lt (n g : Nat) : ∀ p, cmF n g p < 2 ^ p
  | 0 => Nat.zero_lt_one
  | p + 1 => by
    have h := cmF_lt n g p
    have h2 := Nat.pow_lt_pow_right (a := 2) (by decide) (Nat.lt_succ_self p)
    rw [cmF]
    split
    · exact Nat.or_lt_two_pow (Nat.lt_trans h h2) h2
    · exact Nat.lt_trans h h2
theorem cmF_bit (n g : Nat) (q : Nat) : ∀ p, (cmF n g p).testBit q = true ↔ (q < p ∧ kJ q < n ∧ prt n g (kI q) (kJ q))
  | 0 => ⟨fun h => (by rw [cmF, Nat.zero_testBit] at h; cases h), fun h => absurd h.1 (by omega)⟩
  | p + 1 => by
    have h := cmF_bit n g q p
    rw [cmF]
    by_cases hc : kJ p < n ∧ prt n g (kI p) (kJ p)
    · rw [if_pos hc, Nat.testBit_or, Bool.or_eq_true, h, Nat.testBit_two_pow, decide_eq_true_eq]
      constructor
      · rintro (z | z)
        · exact ⟨by omega, z.2⟩
        · subst z
          exact ⟨by omega, hc⟩
      · rintro ⟨z1, z2⟩
        by_cases hx : q = p
        · exact Or.inr hx.symm
        · exact Or.inl ⟨by omega, z2⟩
    · rw [if_neg hc, h]
      constructor
      · rintro ⟨z1, z2⟩
        exact ⟨by omega, z2⟩
      · rintro ⟨z1, z2⟩
        by_cases hx : q = p
        · subst hx
          exact absurd z2 hc
        · exact ⟨by omega, z2⟩
theorem c_X7_complementOf {h : zw_H} {n g : Nat} (n1 : 1 ≤ n) (n2 : n ≤ 6) (hg : g < kN n) : zpI 1 mX7_complementOf [.int (nI (km n g)), .int (nI n)] h (nI (km n (canon n (fpt n g)))) := by
  have e : cmF n g 15 = km n (canon n (fpt n g)) := km_canon n1 n2 (cmF_lt n g 15) (fun i j hij hj => by
    obtain ⟨q1, q2⟩ := kIJ_kp j hj i hij
    rw [cmF_bit, q1, q2]
    have hk := kp_lt i (by omega) j hj hij
    constructor
    · rintro ⟨_, z1, z2⟩
      exact ⟨z1, (fpt_iff hij z1).mpr z2⟩
    · rintro ⟨z1, z2⟩
      exact ⟨hk, z1, (fpt_iff hij z1).mp z2⟩)
  rw [← e]
  refine zcI_of rfl pn_X7 (fun _ => Nat.le_of_ble_eq_true rfl) rfl (rX7_complementOf_0 ?_)
  generalize hr : nI (cmF n g 15) = res
  refine lp_up (P := fun p => zwI 1 mX7_complementOf (fun x h' => x = res ∧ h' = h) 4 [(0, .int (nI (km n g))), (1, .int (nI n)), (2, .int (nI (cmF n g p))), (3, .int (nI p))] [] h) (N := 15) ?_ ?_ 0 (by omega)
  · exact rX7_complementOf_4 ⟨fun _ => ⟨hr, rfl⟩, fun c => absurd (by decide) c⟩
  · intro p hp ih
    obtain ⟨s1, s2, i1, i2, i3⟩ := kIJ p hp
    rw [cmF] at ih
    refine rX7_complementOf_4 ⟨fun c => ?_, fun _ => ⟨p, rfl, hp, fun c => ?_, fun c => ⟨p, rfl, hp, p, rfl, hp, ?_⟩⟩⟩
    · have := zle (a := 15) c
      omega
    · rw [s2] at c
      have := zle c
      rw [if_neg (by omega)] at ih
      rw [nI_1]
      exact ih
    · rw [s2] at c
      have hjn := znle c
      rw [s1, s2]
      refine ca (c_X7_isSplit n1 n2 hg (by omega) (by omega)) ⟨fun c2 => ?_, fun c2 => ?_⟩
      · have := (spl_prt n1 n2 hg hjn).mp (bI_yes c2)
        rw [if_neg (fun z => this z.2)] at ih
        rw [nI_1]
        exact ih
      · have : prt n g (kI p) (kJ p) := Classical.byContradiction (fun z => bI_0.mp c2 ((spl_prt n1 n2 hg hjn).mpr z))
        rw [if_pos ⟨hjn, this⟩] at ih
        rw [zone (by omega), zor, nI_1]
        exact ih
theorem m7_complement {h : zw_H} {A : zA} {r t : Int32} (W : CW h A) : zcI 5 mX7_complement [.ref 0, .int r, .int t] h (opC h (oT A (wrX A.1 r) t (canon A.1.1 (fpt A.1.1 (rgt A.1 r))))) := by
  have n1 := W.1.1.1
  have n2 := W.1.1.2.1
  refine zcI_of rfl pn_X7 (fun _ => Nat.le_of_ble_eq_true rfl) rfl (rX7_complement_0 (ca (c_X7_isRegister h t) (ca (c_X7_faultOf W) ⟨fun c => ?_, fun c => ?_⟩)))
  · obtain ⟨c1, c2⟩ := fo_ok c
    obtain ⟨k, hk, rfl⟩ := bI_yes c1
    rw [wr2_self] at c2
    obtain ⟨a, a1, a2, a3, a4, a5⟩ := W.reg c2
    have e9 := enc2_9 (o := kF A.1.1 (rgt A.1 r)) (fun p q z => by
      have := kF_lt z
      have := kB_le n1 n2 a4
      omega)
    refine caV (c_X7_spellRegister W c2) (fun k1 r1 => ca (c_X3_firstCrossing zs_48 zs_49 zs_50 n1 n2 a4 r1.1) ⟨fun c3 => ⟨a, a2, a1, ?_⟩, fun c3 => ?_⟩)
    · have W1 := W.fr r1.2
      obtain ⟨b, b1, b2, b3, b4, b5⟩ := W1.reg c2
      have e0 : wrX A.1 r = 0 := by
        unfold wrX
        rw [if_pos c2, if_neg (none_some.mp (e9.mp c3))]
      rw [e0, r1.2.1 2 a (by unfold pQ; omega), a5, W1.2.2.1.1]
      exact ca (c_X7_complementOf n1 n2 a4) (c_put W1 (r1.2.mo (fun _ _ z => pQ_C z)) hk (canon_spec _ n1 n2).1)
    · have e0 : wrX A.1 r = -3 := by
        unfold wrX
        rw [if_pos c2, if_pos]
        cases hx : kF A.1.1 (rgt A.1 r) with
        | none => exact absurd (e9.mpr hx) c3
        | some _ => rfl
      rw [e0, oT_f ⟨k, hk, rfl⟩ (by decide)]
      exact ⟨rfl, W.fr r1.2, r1.2.mo (fun _ _ z => pQ_C z)⟩
  · by_cases ht : iR t 8
    · rw [bI_t ht, fo_1, wr2_self] at c ⊢
      have e0 : wrX A.1 r = wr1 A.1 r := if_neg c
      rw [e0, oT_f ht c]
      exact W.same _
    · rw [bI_f ht, fo_0, oT_bad ht]
      exact W.same _
