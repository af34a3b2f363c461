theorem cH_ex {s : zS} {a k z : Nat} (h : cH s a (k + 1) z ≠ 0) : ∃ w, w < kN s.1 ∧ adm s z = true ∧ adm s w = true ∧ lt s.1 w z ∧ cH s a k w ≠ 0 := by
  apply Classical.byContradiction
  intro no
  apply h
  show fb_sm (exT s (cH s a k) z) (kN s.1) = 0
  refine fb_sm_none (fun w hw => ?_)
  unfold exT
  split
  · rename_i hc
    apply Classical.byContradiction
    intro hz
    exact no ⟨w, hw, hc.1, hc.2.1, hc.2.2, hz⟩
  · rfl
theorem cH_up {s : zS} {a k z w : Nat} (hw : w < kN s.1) (az : adm s z = true) (aw : adm s w = true) (hl : lt s.1 w z) (h : cH s a k w ≠ 0) : cH s a (k + 1) z ≠ 0 := by
  intro h0
  have h0 : fb_sm (exT s (cH s a k) z) (kN s.1) = 0 := h0
  have := fb_sm_zero h0 w hw
  rw [exT, if_pos ⟨az, aw, hl⟩] at this
  exact h this
theorem cH_rank {s : zS} {a : Nat} (n1 : 1 ≤ s.1) (n2 : s.1 ≤ 6) : ∀ k z, z < kN s.1 → cH s a k z ≠ 0 → k + kB s.1 z ≤ kB s.1 a
  | 0, z, _, h => by
    have h : sgl a z ≠ 0 := h
    unfold sgl at h
    by_cases hx : z = a
    · rw [hx]
      omega
    · rw [if_neg hx] at h
      exact absurd rfl h
  | k + 1, z, hz, h => by
    obtain ⟨w, w1, _, _, w4, w5⟩ := cH_ex h
    have := cH_rank n1 n2 k w w1 w5
    have := kB_lt n1 n2 w1 hz w4
    omega
/-- the most steps from a -/
noncomputable def ht (s : zS) (a z : Nat) : Nat := (hgt s a z 6).getD 0
theorem ht_ok {s : zS} {a z : Nat} (n1 : 1 ≤ s.1) (n2 : s.1 ≤ 6) (ha : a < kN s.1) (aa : adm s a = true) (hz : z < kN s.1) (az : adm s z = true) (hl : le s.1 a z) : hgt s a z 6 = some (ht s a z) ∧ cH s a (ht s a z) z ≠ 0 ∧ ht s a z < 6 ∧ ∀ k, cH s a k z ≠ 0 → k ≤ ht s a z := by
  have b5 : ∀ k, cH s a k z ≠ 0 → k < 6 := fun k hk => by
    have h1 := cH_rank n1 n2 k z hz hk
    have h2 := kB_le n1 n2 ha
    have h3 := kB_le n1 n2 hz
    omega
  have ex : ∃ k, cH s a k z ≠ 0 := by
    by_cases hx : z = a
    · refine ⟨0, ?_⟩
      show sgl a z ≠ 0
      unfold sgl
      rw [if_pos hx]
      decide
    · refine ⟨0 + 1, cH_up ha az aa ⟨hl, fun e => hx e.symm⟩ ?_⟩
      show sgl a a ≠ 0
      unfold sgl
      rw [if_pos rfl]
      decide
  unfold ht
  cases hh : hgt s a z 6 with
  | none =>
    obtain ⟨k, hk⟩ := ex
    unfold hgt at hh
    have := ls_none.mp hh k (b5 k hk)
    simp [hk] at this
  | some m =>
    unfold hgt at hh
    obtain ⟨m1, m2, m3⟩ := ls_some hh
    refine ⟨rfl, of_decide_eq_true m2, m1, fun k hk => ?_⟩
    apply Classical.byContradiction
    intro hx
    have := m3 k (by show m < k; have : ¬ k ≤ m := hx; omega) (b5 k hk)
    simp [hk] at this
noncomputable def hm (s : zS) (a b i : Nat) : Nat → Nat
  | 0 => 0
  | y + 1 => by classical exact if le s.1 (sg s a b y) (sg s a b i) then max (hm s a b i y) (ht s a (sg s a b y) + 1) else hm s a b i y
theorem hm_ge {s : zS} {a b i y : Nat} (hl : le s.1 (sg s a b y) (sg s a b i)) : ∀ m, y < m → ht s a (sg s a b y) + 1 ≤ hm s a b i m
  | 0, h => absurd h (by omega)
  | m + 1, h => by
    rw [hm]
    by_cases hx : y = m
    · rw [← hx, if_pos hl]
      exact Nat.le_max_right _ _
    · have := hm_ge hl m (by omega)
      split
      · exact Nat.le_trans this (Nat.le_max_left _ _)
      · exact this
theorem hm_le {s : zS} {a b i M : Nat} : ∀ m, (∀ y, y < m → le s.1 (sg s a b y) (sg s a b i) → ht s a (sg s a b y) + 1 ≤ M) → hm s a b i m ≤ M
  | 0, _ => Nat.zero_le _
  | m + 1, h => by
    have := hm_le m (fun y hy => h y (by omega))
    rw [hm]
    split
    · rename_i hc
      exact Nat.max_le.mpr ⟨this, h m (by omega) hc⟩
    · exact this
theorem hm_ht {s : zS} {a b i : Nat} (n1 : 1 ≤ s.1) (n2 : s.1 ≤ 6) (ha : a < kN s.1) (aa : adm s a = true) (hi : i < szN s a b) : hm s a b i i = ht s a (sg s a b i) := by
  obtain ⟨x1, x2, x3⟩ := sg_ok hi
  obtain ⟨t1, t2, t3, t4⟩ := ht_ok n1 n2 ha aa x1 x2.1 x2.2.1
  apply Nat.le_antisymm
  · refine hm_le i (fun y hy hl => ?_)
    obtain ⟨y1, y2, y3⟩ := sg_ok (s := s) (a := a) (b := b) (show y < szN s a b by omega)
    obtain ⟨_, u2, _, _⟩ := ht_ok n1 n2 ha aa y1 y2.1 y2.2.1
    exact t4 _ (cH_up y1 x2.1 y2.1 ⟨hl, fun e => by have := sg_inj (show y < szN s a b by omega) hi e; omega⟩ u2)
  · cases hk : ht s a (sg s a b i) with
    | zero => exact Nat.zero_le _
    | succ k =>
      rw [hk] at t2
      obtain ⟨w, w1, _, w3, w4, w5⟩ := cH_ex t2
      have hb : btw s a b w := ⟨w3, Classical.byContradiction (fun z => w5 (cH_no k w z)), le_trans w4.1 x2.2.2⟩
      obtain ⟨p1, p2⟩ := sg_pos w1 hb
      have pi := sg_ord n1 n2 p1 hi (by rw [p2]; exact w4.1) (fun e => w4.2 (by rw [← p2, e]))
      obtain ⟨_, _, _, u4⟩ := ht_ok n1 n2 ha aa w1 w3 hb.2.1
      have h1 := u4 k w5
      have h2 := hm_ge (s := s) (a := a) (b := b) (i := i) (y := pos s a b w) (by rw [p2]; exact w4.1) i pi
      rw [p2] at h2
      omega
theorem hm_6 {s : zS} {a b i m : Nat} (n1 : 1 ≤ s.1) (n2 : s.1 ≤ 6) (ha : a < kN s.1) (aa : adm s a = true) (hm6 : m ≤ szN s a b) : hm s a b i m ≤ 6 := hm_le m (fun y hy _ => by
  obtain ⟨y1, y2, y3⟩ := sg_ok (s := s) (a := a) (b := b) (show y < szN s a b by omega)
  have := (ht_ok n1 n2 ha aa y1 y2.1 y2.2.1).2.2.1
  omega)
theorem zmaxL_n {a b : Nat} (ha : a < 2147483648) (hb : b < 2147483648) : zmaxL (lN a) (lN b) = lN (max a b) := by
  unfold zmaxL
  by_cases hx : b < a
  · rw [if_pos ((lN_lt hb ha).mpr hx), Nat.max_eq_left (by omega)]
  · rw [if_neg (fun z => hx ((lN_lt hb ha).mp z)), Nat.max_eq_right (by omega)]
theorem c_X4_putHeights {h : zw_H} {s : zS} {a b : Nat} (n1 : 1 ≤ s.1) (n2 : s.1 ≤ 6) (ha : a < kN s.1) (aa : adm s a = true) (S : SN h s a b) : zcV 1 mX4_putHeights [.ref 43] h (fun h' => (∀ i, i < szN s a b → h'.2 46 i = lN (ht s a (sg s a b i))) ∧ Fr (fun a _ => a = 46) h h') := by
  have hN := (kN_le n1 n2).1
  have hs := szN_le s a b
  refine zcV_of rfl pn_X4 (fun _ => Nat.le_of_ble_eq_true rfl) rfl (rX4_putHeights_0 ?_)
  generalize hQ : (fun (h' : zw_H) => (∀ i, i < szN s a b → h'.2 46 i = lN (ht s a (sg s a b i))) ∧ Fr (fun a _ => a = 46) h h') = Q
  refine lp_up (P := fun i => ∀ k, Fr (fun a _ => a = 46) h k → (∀ i', i' < i → k.2 46 i' = lN (ht s a (sg s a b i'))) → zwV 1 mX4_putHeights Q 2 [(0, .ref 43), (1, .int (nI i))] [] k) (N := szN s a b) ?_ ?_ 0 (by omega) h Fr.rf (fun _ h => absurd h (by omega))
  · intro k fr inv
    have S' := S.fr fr (fun _ _ _ _ => by omega)
    refine rX4_putHeights_2 ⟨fun _ => ?_, fun c => absurd (by rw [S'.1]; exact nI_le (Nat.le_refl _) (by omega)) c⟩
    rw [← hQ]
    exact ⟨inv, fr⟩
  · intro i hi ih k fr inv
    have S' := S.fr fr (fun _ _ _ _ => by omega)
    have m2 := km_lt n1 n2 (sg_ok hi).1
    refine rX4_putHeights_2 ⟨fun c => ?_, fun _ => ?_⟩
    · rw [S'.1] at c
      have := zle c
      omega
    refine lp_up (P := fun y => zwV 1 mX4_putHeights Q 15 [(0, .ref 43), (1, .int (nI i)), (2, .long (lN (hm s a b i y))), (4, .int (nI y))] [] k) (N := i) ?_ ?_ 0 (by omega)
    · refine rX4_putHeights_15 ⟨fun _ => ⟨i, rfl, by omega, fun k2 e2 => ?_⟩, fun c => absurd (nI_le (Nat.le_refl _) (by omega)) c⟩
      rw [nI_1]
      rw [hm_ht n1 n2 ha aa hi] at e2
      refine ih k2 (fr.sL e2 rfl) (fun i' hi' => ?_)
      by_cases hx : i' = i
      · rw [hx, e2, zw_sL_s]
      · rw [e2, zw_sL_n (Or.inr hx)]
        exact inv i' (by omega)
    · intro y hy ih2
      obtain ⟨y1, y2, y3⟩ := sg_ok (s := s) (a := a) (b := b) (show y < szN s a b by omega)
      have m1 := km_lt n1 n2 y1
      have t6 := (ht_ok n1 n2 ha aa y1 y2.1 y2.2.1).2.2.1
      have h6 := hm_6 (i := i) (m := y) n1 n2 ha aa (show y ≤ szN s a b by omega)
      rw [hm] at ih2
      refine rX4_putHeights_15 ⟨fun c => ?_, fun _ => ⟨y, rfl, by omega, i, rfl, by omega, ?_⟩⟩
      · have := zle c
        omega
      rw [(S'.2 y (by omega)).1, (S'.2 i hi).1]
      refine ca (c_X7_isBelow k (by omega) (by omega)) ⟨fun c => ?_, fun c => ⟨y, rfl, by omega, ?_⟩⟩
      · rw [if_neg (show ¬ le s.1 (sg s a b y) (sg s a b i) from bI_0.mp c)] at ih2
        rw [nI_1]
        exact ih2
      · rw [if_pos (show le s.1 (sg s a b y) (sg s a b i) from bI_yes c)] at ih2
        rw [nI_1, inv y hy, lN_1, zmaxL_n (by omega) (by omega)]
        exact ih2
theorem m7_height {h : zw_H} {A : zA} {r s : Int32} (W : CW h A) : zcI 3 mX7_height [.ref 0, .int r, .int s] h (opC h (gd (wr3 A.1 r s) (enc1 (hgt A.1 (rgt A.1 r) (rgt A.1 s) 6)), A)) := by
  have n1 := W.1.1.1
  have n2 := W.1.1.2.1
  have hN := (kN_le n1 n2).1
  refine zcI_of rfl pn_X7 (fun _ => Nat.le_of_ble_eq_true rfl) rfl (rX7_height_0 (ca (c_X7_faultOfAdmitted W) ⟨fun c => ?_, fun c => ?_⟩))
  · rw [foA_1] at c
    obtain ⟨c2, aa, ab⟩ := wr3_0 c
    obtain ⟨d1, d2⟩ := wr2_0 c2
    obtain ⟨a, a1, a2, a3, a4⟩ := rgt_ok W.1.1 d1
    obtain ⟨b, b1, b2, b3, b4⟩ := rgt_ok W.1.1 d2
    have hs := szN_le A.1 (rgt A.1 r) (rgt A.1 s)
    rw [gd_0 c]
    refine caV (c_X7_selectSpan W d1 d2) (fun k1 r1 => ?_)
    rw [r1.1.1]
    refine ⟨fun c3 => ?_, fun c3 => ?_⟩
    · have hp : 0 < szN A.1 (rgt A.1 r) (rgt A.1 s) := Nat.pos_of_ne_zero (fun z => c3 (by rw [z]; rfl))
      refine caV (c_X4_putHeights n1 n2 a4 aa r1.1) (fun k2 r2 => caL (c_X4_lastValue (V := lN (ht A.1 (rgt A.1 r) (rgt A.1 s))) n1 n2 (r1.1.fr r2.2 (fun _ _ _ _ => by omega)) (fun hz => absurd hp (by omega)) (fun hp => ?_)) ?_)
      · rw [r2.1 _ (by omega), sg_last n1 n2 b4 ab hp]
      · rw [lN_i, (ht_ok n1 n2 a4 aa b4 ab (szN_le_ab hp)).1]
        exact W.ans (r1.2.tr (r2.2.mo (fun _ _ z => p46_Q z))) _
    · have hz := zeq (b := 0) c3
      have hno : hgt A.1 (rgt A.1 r) (rgt A.1 s) 6 = none := by
        unfold hgt
        refine ls_none.mpr (fun k _ => ?_)
        rw [cH_no k (rgt A.1 s) (fun z => by
          have := szN_pos a4 aa z
          omega)]
        rfl
      rw [hno]
      exact W.ans r1.2 _
  · rw [foA_1] at c ⊢
    rw [gd_f c]
    exact W.same _
