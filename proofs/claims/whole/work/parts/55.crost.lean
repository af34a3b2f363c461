theorem m0_iff {m : Nat} (h : m < 32768) : m = 0 ↔ ∀ i j, i < j → j < 6 → m.testBit (kp i j) = false := by
  constructor
  · intro e i j _ _
    rw [e, Nat.zero_testBit]
  · intro z
    apply Nat.eq_of_testBit_eq
    intro p
    rw [Nat.zero_testBit]
    by_cases hp : p < 15
    · obtain ⟨i, _, j, hj, hij, rfl⟩ := kp_onto p hp
      exact z i j hij hj
    · exact Nat.testBit_lt_two_pow (Nat.lt_of_lt_of_le h (by
        have := Nat.pow_le_pow_right (n := 2) (by decide) (show 15 ≤ p by omega)
        omega))
theorem kPr_none {set n g : Nat} {one : Bool} : kPr set one n g = none ↔ ∀ i j, i < j → j < n → (set.testBit (kp i j) && (decide (ks n g i = ks n g j) == one)) = false := by
  unfold kPr
  rw [fs2_none (by omega)]
  exact ⟨fun h i j h1 h2 => h i j (by omega) h1 h2, fun h i j _ h1 h2 => h i j h1 h2⟩
/-- pairs that are in the partition, of a set -/
theorem ap_iff {set n g : Nat} (h1 : 1 ≤ n) (h2 : n ≤ 6) (hg : g < kN n) : km n g &&& set = 0 ↔ kPr set true n g = none := by
  have hm := km_lt h1 h2 hg
  rw [m0_iff (Nat.lt_of_le_of_lt Nat.and_le_left hm), kPr_none]
  constructor
  · intro z i j hij hj
    have := z i j hij (by omega)
    rw [Nat.testBit_and, km_bit h1 h2 hg hij (by omega), decide_eq_true hj, Bool.true_and] at this
    rw [Bool.and_comm] at this
    rw [beq_true]
    exact this
  · intro z i j hij hj
    rw [Nat.testBit_and, km_bit h1 h2 hg hij hj]
    by_cases hx : j < n
    · have := z i j hij hx
      rw [beq_true, Bool.and_comm] at this
      rw [decide_eq_true hx, Bool.true_and]
      exact this
    · rw [decide_eq_false hx, Bool.false_and, Bool.false_and]
/-- pairs that aren't, of a set within the elements -/
theorem tg_iff {set n g : Nat} (h1 : 1 ≤ n) (h2 : n ≤ 6) (hg : g < kN n) (hA : set &&& kA n = set) : set &&& km n g = set ↔ kPr set false n g = none := by
  have hm15 : set < 32768 := by
    rw [← hA]
    exact Nat.lt_of_le_of_lt Nat.and_le_right (km_lt h1 h2 (kN_le h1 h2).2)
  have hin : ∀ i j, i < j → j < 6 → set.testBit (kp i j) = true → j < n := fun i j hij hj z => by
    have h3 := congrArg (fun z => z.testBit (kp i j)) hA
    simp only [Nat.testBit_and, z, kA_bit h1 h2 hij hj, Bool.true_and, decide_eq_true_eq] at h3
    exact h3
  rw [kPr_none]
  constructor
  · intro z i j hij hj
    have h3 := congrArg (fun z => z.testBit (kp i j)) z
    simp only [Nat.testBit_and, km_bit h1 h2 hg hij (show j < 6 by omega), decide_eq_true hj, Bool.true_and] at h3
    cases hx : set.testBit (kp i j) with
    | false => rfl
    | true =>
      rw [hx, Bool.true_and] at h3
      rw [h3]
      rfl
  · intro z
    apply Nat.eq_of_testBit_eq
    intro p
    rw [Nat.testBit_and]
    by_cases hp : p < 15
    · obtain ⟨i, _, j, hj, hij, rfl⟩ := kp_onto p hp
      cases hx : set.testBit (kp i j) with
      | false => rfl
      | true =>
        have hj2 := hin i j hij hj hx
        have := z i j hij hj2
        rw [hx, Bool.true_and] at this
        rw [km_bit h1 h2 hg hij hj, decide_eq_true hj2, Bool.true_and, Bool.true_and]
        cases hy : decide (ks n g i = ks n g j) with
        | true => rfl
        | false => rw [hy] at this; cases this
    · have : set.testBit p = false := Nat.testBit_lt_two_pow (Nat.lt_of_lt_of_le hm15 (by
        have := Nat.pow_le_pow_right (n := 2) (by decide) (show 15 ≤ p by omega)
        omega))
      rw [this]
      rfl
theorem sz_iff {sz n g : Nat} (h2 : n ≤ 6) : szs n g &&& sz = szs n g ↔ kS sz n g = none := by
  unfold kS szs
  rw [fs_none]
  constructor
  · intro z b _ hb
    have h3 := congrArg (fun z => z.testBit (kz n g b)) z
    simp only [Nat.testBit_and, (szF_bit n g (kz n g b) (kB n g)).mpr ⟨b, by omega, rfl⟩, Bool.true_and] at h3
    rw [h3]
    rfl
  · intro z
    apply Nat.eq_of_testBit_eq
    intro i
    rw [Nat.testBit_and]
    cases hx : (szF n g (kB n g)).testBit i with
    | false => rfl
    | true =>
      obtain ⟨b, hb, e⟩ := (szF_bit n g i (kB n g)).mp hx
      have := z b (by omega) (by omega)
      rw [e] at this
      rw [Bool.true_and]
      cases hy : sz.testBit i with
      | true => rfl
      | false => rw [hy] at this; cases this
theorem c_X5_reason {h : zw_H} {s : zS} {g : Nat} (V : SV s) (hT : s.2.2.2.2.1 &&& kA s.1 = s.2.2.2.2.1) (S : SO h 1 2 s) (hg : g < kN s.1) : zpI 0 mX5_reason [.ref 1, .int (nI (km s.1 g)), .int (nI (szs s.1 g)), .int (nI (kB s.1 g)), .int (bI ((kF s.1 g).isSome = true))] h (nI (rsn s g)) := by
  obtain ⟨n1, n2, v3, v4, v5, v6, v7, v8⟩ := V
  obtain ⟨s1, s2, s3, s4, s5, s6, s7⟩ := S
  have hm := km_lt n1 n2 hg
  have hz : szs s.1 g < 128 := szF_lt s.1 g n2 _
  have hB := kB_le n1 n2 hg
  refine zcI_of rfl pn_X5 (fun _ => Nat.le_of_ble_eq_true rfl) rfl (rX5_reason_0 ?_)
  rw [s2, s3, s4, s5, s6, zsub (by omega) (by omega), zsub (by omega) (by omega), zand, sz_iff n2, tg_iff n1 n2 hg hT]
  have a0 : nI (km s.1 g &&& s.2.2.2.1) = 0 ↔ kPr s.2.2.2.1 true s.1 g = none := by
    rw [← ap_iff n1 n2 hg]
    exact ⟨fun z => zeq (b := 0) z (Nat.lt_of_le_of_lt Nat.and_le_left (by omega)), fun z => by rw [z]; rfl⟩
  rw [a0, zbit0 (by omega) (by omega)]
  refine ⟨fun c1 => ⟨fun c2 => ⟨fun c3 => ⟨fun c4 => ⟨fun c5 => ⟨?_, rfl⟩, fun c5 => ⟨fun c6 => ⟨?_, rfl⟩, fun c6 => ⟨?_, rfl⟩⟩⟩, fun c4 => ⟨?_, rfl⟩⟩, fun c3 => ⟨?_, rfl⟩⟩, fun c2 => ⟨?_, rfl⟩⟩, fun c1 => ⟨?_, rfl⟩⟩
  · have k5 : s.2.2.2.2.2.1 ≠ 1 := fun z => by rw [z] at c5; exact absurd c5 (by decide)
    rw [rsn, if_neg (none_some.mp c1), if_neg c2, if_neg (none_some.mp c3), if_neg (none_some.mp c4), if_neg (fun z => k5 z.1)]
    rfl
  · rw [rsn, if_neg (none_some.mp c1), if_neg c2, if_neg (none_some.mp c3), if_neg (none_some.mp c4), if_neg (fun z => bI_0.mp c6 z.2)]
    rfl
  · have k5 : s.2.2.2.2.2.1 = 1 := by
      have : s.2.2.2.2.2.1 ≠ 0 := fun z => c5 (by rw [z]; rfl)
      omega
    rw [rsn, if_neg (none_some.mp c1), if_neg c2, if_neg (none_some.mp c3), if_neg (none_some.mp c4), if_pos ⟨k5, bI_yes c6⟩]
    rfl
  · rw [rsn, if_neg (none_some.mp c1), if_neg c2, if_neg (none_some.mp c3), if_pos (Classical.byContradiction (fun z => c4 (none_some.mpr z)))]
    rfl
  · rw [rsn, if_neg (none_some.mp c1), if_neg c2, if_pos (Classical.byContradiction (fun z => c3 (none_some.mpr z)))]
    rfl
  · rw [rsn, if_neg (none_some.mp c1), if_pos c2]
    rfl
  · rw [rsn, if_pos (Classical.byContradiction (fun z => c1 (none_some.mpr z)))]
    rfl
/-- the roster of the class -/
def CR (h : zw_H) (s : zS) : Prop := h.1 37 5 = nI (cnt s) ∧ (∀ k, k < cnt s → h.1 38 k = nI (km s.1 (nth s k)) ∧ h.1 39 k = nI (kt s.1 (nth s k)) ∧ h.1 40 k = nI (kB s.1 (nth s k))) ∧ ∀ k, k ≤ 6 → h.1 41 k = nI (cwN s k (kN s.1))
theorem CR.fr {P : Nat → Nat → Prop} {h h' : zw_H} {s : zS} (C : CR h s) (f : Fr P h h') (p0 : ¬ P 37 5) (p1 : ∀ a b, 38 ≤ a → a ≤ 41 → ¬ P a b) : CR h' s := by
  obtain ⟨c1, c2, c3⟩ := C
  refine ⟨by rw [f.1 _ _ p0]; exact c1, fun k hk => ?_, fun k hk => by rw [f.1 _ _ (p1 _ _ (by omega) (by omega))]; exact c3 k hk⟩
  obtain ⟨x1, x2, x3⟩ := c2 k hk
  exact ⟨by rw [f.1 _ _ (p1 _ _ (by omega) (by omega))]; exact x1, by rw [f.1 _ _ (p1 _ _ (by omega) (by omega))]; exact x2, by rw [f.1 _ _ (p1 _ _ (by omega) (by omega))]; exact x3⟩
theorem ix_succ (s : zS) (g : Nat) : ix s (g + 1) = ix s g + (if adm s g = true then 1 else 0) := fb_ct_succ _ g
theorem ix_lt {s : zS} {g g' : Nat} (h : g < g') (ha : adm s g = true) : ix s g < ix s g' := by
  have h2 := fb_ct_mono (adm s) (show g + 1 ≤ g' by omega)
  rw [fb_ct_succ, if_pos ha] at h2
  unfold ix
  omega
theorem adm_rsn {s : zS} {g : Nat} : adm s g = true ↔ rsn s g = 0 := by
  unfold adm
  exact decide_eq_true_iff
theorem rsn_le6 (s : zS) (g : Nat) : rsn s g ≤ 5 := by
  unfold rsn
  repeat' split
  all_goals omega
def pRo (a b : Nat) : Prop := a = 37 ∧ b = 5 ∨ 38 ≤ a ∧ a ≤ 41
theorem c_X2_select {h : zw_H} {s : zS} (V : SV s) (hT : s.2.2.2.2.1 &&& kA s.1 = s.2.2.2.2.1) (S : SO h 1 2 s) (C : CC h s.1) : zcV 1 mX2_select [.ref 37, .ref 27, .ref 1] h (fun h' => CR h' s ∧ Fr pRo h h') := by
  have n1 := V.1
  have n2 := V.2.1
  have hN := kN_le n1 n2
  refine zcV_of rfl pn_X2 (fun _ => Nat.le_of_ble_eq_true rfl) rfl (rX2_select_0 (fun k1 e1 => ?_))
  generalize hQ : (fun (h' : zw_H) => CR h' s ∧ Fr pRo h h') = Q
  have F1 : Fr pRo h k1 := Fr.rf.sI e1 (Or.inl ⟨rfl, rfl⟩)
  have v1 : k1.1 37 5 = nI 0 := by rw [e1, zw_sI_s]; rfl
  refine lp_up (P := fun j => ∀ k, Fr (fun a _ => a = 41) k1 k → (∀ j', j' < j → k.1 41 j' = nI 0) → zwV 1 mX2_select Q 7 [(0, .ref 37), (1, .ref 27), (2, .ref 1), (3, .int (nI j))] [] k) (N := 7) ?_ ?_ 0 (by omega) k1 Fr.rf (fun _ h => absurd h (by omega))
  · intro k fr inv
    refine rX2_select_7 ⟨fun _ => ?_, fun c => absurd (by decide) c⟩
    refine lp_up (P := fun i => ∀ k, Fr pRo h k → k.1 37 5 = nI (ix s i) → (∀ g, g < i → adm s g = true → k.1 38 (ix s g) = nI (km s.1 g) ∧ k.1 39 (ix s g) = nI (kt s.1 g) ∧ k.1 40 (ix s g) = nI (kB s.1 g)) → (∀ j, j ≤ 6 → k.1 41 j = nI (cwN s j i)) → zwV 1 mX2_select Q 28 [(0, .ref 37), (1, .ref 27), (2, .ref 1), (3, .int (nI i))] [] k) (N := kN s.1) ?_ ?_ 0 (by omega) k (F1.tr (fr.mo (fun a b z => by unfold pRo; omega))) (by rw [fr.1 37 5 (by omega)]; exact v1) (fun _ h => absurd h (by omega)) (fun j hj => inv j (by omega))
    · intro k fr sz en bn
      have C' : CC k s.1 := C.fr fr (fun _ => by unfold pRo; omega) (fun _ _ _ _ => by unfold pRo; omega)
      refine rX2_select_28 ⟨fun _ => ?_, fun c => absurd (by rw [C'.2.1]; exact nI_le (Nat.le_refl _) (by omega)) c⟩
      rw [← hQ]
      refine ⟨⟨sz, fun k hk => ?_, bn⟩, fr⟩
      obtain ⟨x1, x2, x3⟩ := nth_ok hk
      have := en (nth s k) x1 x2
      rw [x3] at this
      exact this
    · intro i hi ih k fr sz en bn
      have C' : CC k s.1 := C.fr fr (fun _ => by unfold pRo; omega) (fun _ _ _ _ => by unfold pRo; omega)
      have S' : SO k 1 2 s := S.fr fr (fun _ => by unfold pRo; omega) (fun _ => by unfold pRo; omega)
      obtain ⟨c1, c2, c3, c4, c5⟩ := C'.2.2 i hi
      have hr := rsn_le6 s i
      have hB := kB_le n1 n2 hi
      have hix := ix_le s i
      refine rX2_select_28 ⟨fun c => ?_, fun _ => ⟨i, rfl, by omega, i, rfl, by omega, i, rfl, by omega, i, rfl, by omega, ?_⟩⟩
      · rw [C'.2.1] at c
        have := zle c
        omega
      rw [c1, c3, c4, c5]
      refine ca (c_X5_reason V hT S' hi) ⟨fun c => ?_, fun c => ⟨i, rfl, by omega, ix s i, sz, by omega, fun k8 e8 => ⟨i, rfl, by omega, ix s i, ?_, by omega, fun k11 e11 => ⟨ix s i, ?_, by omega, fun k13 e13 => ⟨kB s.1 i, rfl, by omega, kB s.1 i, rfl, by omega, fun k16 e16 => fun k17 e17 => ?_⟩⟩⟩⟩⟩
      · have na : ¬ adm s i = true := fun z => c (by rw [adm_rsn.mp z]; rfl)
        rw [nI_1]
        refine ih k fr ?_ (fun g hg ha => ?_) (fun j hj => ?_)
        · rw [ix_succ, if_neg na]
          exact sz
        · by_cases hx : g = i
          · rw [hx] at ha
            exact absurd ha na
          · exact en g (by omega) ha
        · rw [bn j hj, cwN, cwN, fb_ct_succ, if_neg (fun z => na (by rw [Bool.and_eq_true] at z; exact z.1))]
          rfl
      · rw [e8, zw_sI_n (Or.inl (by decide))]
        exact sz
      · rw [e11, zw_sI_n (Or.inl (by decide)), e8, zw_sI_n (Or.inl (by decide))]
        exact sz
      · have ya : adm s i = true := adm_rsn.mpr (zeq (b := 0) c)
        rw [c1] at e8
        have v29 : k8.1 29 i = nI (kt s.1 i) := by rw [e8, zw_sI_n (Or.inl (by decide))]; exact c2
        rw [v29] at e11
        have v41 : k13.1 41 (kB s.1 i) = nI (cwN s (kB s.1 i) i) := by
          rw [e13, zw_sI_n (Or.inl (by decide)), e11, zw_sI_n (Or.inl (by decide)), e8, zw_sI_n (Or.inl (by decide))]
          exact bn _ (by omega)
        rw [v41, nI_1] at e16
        have v37 : k16.1 37 5 = nI (ix s i) := by
          rw [e16, zw_sI_n (Or.inl (by decide)), e13, zw_sI_n (Or.inl (by decide)), e11, zw_sI_n (Or.inl (by decide)), e8, zw_sI_n (Or.inl (by decide))]
          exact sz
        rw [v37, nI_1] at e17
        have po : ∀ a b, 38 ≤ a → a ≤ 41 → pRo a b := fun a b x y => Or.inr ⟨x, y⟩
        have F17 : Fr pRo h k17 := ((((fr.sI e8 (po _ _ (by omega) (by omega))).sI e11 (po _ _ (by omega) (by omega))).sI e13 (po _ _ (by omega) (by omega))).sI e16 (po _ _ (by omega) (by omega))).sI e17 (Or.inl ⟨rfl, rfl⟩)
        rw [nI_1]
        refine ih k17 F17 ?_ (fun g hg ha => ?_) (fun j hj => ?_)
        · rw [e17, zw_sI_s, ix_succ, if_pos ya]
        · by_cases hx : g = i
          · subst hx
            refine ⟨?_, ?_, ?_⟩
            · rw [e17, zw_sI_n (Or.inl (by decide)), e16, zw_sI_n (Or.inl (by decide)), e13, zw_sI_n (Or.inl (by decide)), e11, zw_sI_n (Or.inl (by decide)), e8, zw_sI_s]
            · rw [e17, zw_sI_n (Or.inl (by decide)), e16, zw_sI_n (Or.inl (by decide)), e13, zw_sI_n (Or.inl (by decide)), e11, zw_sI_s]
            · rw [e17, zw_sI_n (Or.inl (by decide)), e16, zw_sI_n (Or.inl (by decide)), e13, zw_sI_s]
          · have hlt := ix_lt (show g < i by omega) ha
            obtain ⟨x1, x2, x3⟩ := en g (by omega) ha
            refine ⟨?_, ?_, ?_⟩
            · rw [e17, zw_sI_n (Or.inl (by decide)), e16, zw_sI_n (Or.inl (by decide)), e13, zw_sI_n (Or.inl (by decide)), e11, zw_sI_n (Or.inl (by decide)), e8, zw_sI_n (Or.inr (by omega))]
              exact x1
            · rw [e17, zw_sI_n (Or.inl (by decide)), e16, zw_sI_n (Or.inl (by decide)), e13, zw_sI_n (Or.inl (by decide)), e11, zw_sI_n (Or.inr (by omega)), e8, zw_sI_n (Or.inl (by decide))]
              exact x2
            · rw [e17, zw_sI_n (Or.inl (by decide)), e16, zw_sI_n (Or.inl (by decide)), e13, zw_sI_n (Or.inr (by omega)), e11, zw_sI_n (Or.inl (by decide)), e8, zw_sI_n (Or.inl (by decide))]
              exact x3
        · by_cases hx : j = kB s.1 i
          · subst hx
            rw [e17, zw_sI_n (Or.inl (by decide)), e16, zw_sI_s, cwN, cwN, fb_ct_succ, if_pos (by rw [ya]; simp)]
          · rw [e17, zw_sI_n (Or.inl (by decide)), e16, zw_sI_n (Or.inr hx), e13, zw_sI_n (Or.inl (by decide)), e11, zw_sI_n (Or.inl (by decide)), e8, zw_sI_n (Or.inl (by decide)), bn j hj, cwN, cwN, fb_ct_succ, if_neg (by
              intro z
              rw [Bool.and_eq_true, decide_eq_true_eq] at z
              exact hx z.2.symm)]
            rfl
  · intro j hj ih k fr inv
    refine rX2_select_7 ⟨fun c => ?_, fun _ => ⟨j, rfl, by omega, fun k2 e2 => ?_⟩⟩
    · have := zlt (a := 6) c
      omega
    · rw [nI_1]
      refine ih k2 (fr.sI e2 rfl) (fun j' hj' => ?_)
      by_cases hx : j' = j
      · rw [hx, e2, zw_sI_s]
        rfl
      · rw [e2, zw_sI_n (Or.inr hx)]
        exact inv j' (by omega)
