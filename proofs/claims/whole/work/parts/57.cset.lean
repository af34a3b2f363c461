theorem SO.upd {k k' : zw_H} {s s' : zS} {c : Nat} {v : Int32} (S : SO k 1 2 s) (e : k' = zw_sI k 1 c v) (h1 : nI s'.1 = if 1 = c then v else nI s.1) (h2 : nI s'.2.1 = if 2 = c then v else nI s.2.1) (h3 : nI s'.2.2.1 = if 3 = c then v else nI s.2.2.1) (h4 : nI s'.2.2.2.1 = if 4 = c then v else nI s.2.2.2.1) (h5 : nI s'.2.2.2.2.1 = if 5 = c then v else nI s.2.2.2.2.1) (h6 : nI s'.2.2.2.2.2.1 = if 6 = c then v else nI s.2.2.2.2.2.1) (h7 : ∀ r, encC s'.1 (s'.2.2.2.2.2.2 r) = encC s.1 (s.2.2.2.2.2.2 r)) : SO k' 1 2 s' := by
  have key : ∀ j, k'.1 1 j = if j = c then v else k.1 1 j := fun j => by
    rw [e]
    by_cases hx : j = c
    · rw [if_pos hx, hx, zw_sI_s]
    · rw [if_neg hx, zw_sI_n (Or.inr hx)]
  obtain ⟨s1, s2, s3, s4, s5, s6, s7⟩ := S
  exact ⟨by rw [key, s1, h1], by rw [key, s2, h2], by rw [key, s3, h3], by rw [key, s4, h4], by rw [key, s5, h5], by rw [key, s6, h6], fun r hr => by rw [e, zw_sI_n (Or.inl (by decide)), s7 r hr, h7]⟩
theorem c_X7_withBits {h : zw_H} {a b : Nat} {v : Int32} {on : Bool} (ha : a < 2147483648) (hv : v = 0 ↔ on = false) : zpI 0 mX7_withBits [.int (nI a), .int (nI (2 ^ b)), .int v] h (nI (sBit a b on)) := by
  refine zcI_of rfl pn_X7 (fun _ => Nat.le_of_ble_eq_true rfl) rfl (rX7_withBits_0 ⟨fun c => ⟨?_, rfl⟩, fun c => ⟨?_, rfl⟩⟩)
  · rw [zdel ha, sBit, if_neg (by rw [hv.mp c]; decide)]
  · have : on = true := by
      cases on with
      | true => rfl
      | false => exact absurd (hv.mpr rfl) c
    rw [zor, sBit, if_pos this]
theorem in16 {x : Int32} (c : ¬ x < 1) (c2 : x ≤ 6) : ∃ k, r16 x = some k := r16_yes ⟨c, fun z => by
  rw [Int32.lt_iff_toInt_lt] at z
  rw [Int32.le_iff_toInt_le] at c2
  omega⟩
theorem out16 {x : Int32} (c : x < 1 ∨ ¬ x ≤ 6) : r16 x = none := r16_none.mpr (fun z => by
  rcases c with c | c
  · exact z.1 c
  · refine c ?_
    have := z.2
    rw [Int32.lt_iff_toInt_lt] at this
    rw [Int32.le_iff_toInt_le]
    omega)
theorem m7_allowSize {h : zw_H} {A : zA} {x v : Int32} {on : Bool} (W : CW h A) (hv : v = 0 ↔ on = false) : zcI 6 mX7_allowSize [.ref 0, .int x, .int v] h (opC h (oSz A x on)) := by
  obtain ⟨v1, v2, v3, v4, v5, v6, v7, v8⟩ := id W.1.1
  unfold oSz
  refine zcI_of rfl pn_X7 (fun _ => Nat.le_of_ble_eq_true rfl) rfl (rX7_allowSize_0 ⟨fun c => ?_, fun c => ⟨fun c2 => ?_, fun c2 => ?_⟩⟩)
  · rw [out16 (Or.inl c)]
    exact W.same _
  · obtain ⟨b, hb⟩ := in16 c c2
    obtain ⟨b1, b2, rfl⟩ := r16_some hb
    rw [hb]
    dsimp only
    refine caV (c_X1_remember W.1.1 W.2.2.1 W.2.2.2.1) (fun k1 r1 => ?_)
    have S1 : SO k1 1 2 A.1 := W.2.2.1.fr r1.2 (fun _ => by unfold pH; omega) (fun _ => by unfold pH; omega)
    rw [S1.2.1, zone (by omega)]
    refine ca (c_X7_withBits (by omega) hv) (fun k2 e2 => ?_)
    have V' : SV (sSz A.1 (sBit A.1.2.1 b on)) := ⟨v1, v2, sBit_lt (m := 7) v3 (by omega), v4, v5, v6, v7, v8⟩
    have S2 : SO k2 1 2 (sSz A.1 (sBit A.1.2.1 b on)) := S1.upd e2 rfl rfl rfl rfl rfl rfl (fun _ => rfl)
    have f2 : Fr (fun a _ => a = 1 ∨ a = 2) k1 k2 := Fr.rf.sI e2 (Or.inl rfl)
    refine caV (c_X7_refresh V' W.2.1.1 S2 (c_change_old W v2 r1.2 f2)) (fun k3 r3 => ?_)
    refine ⟨?_, c_change W V' W.2.1.1 r1.1 r1.2 S2 f2 r3⟩
    rw [W.2.2.1.2.1, zbit (by omega) (by omega)]
  · rw [out16 (Or.inr c2)]
    exact W.same _
theorem m7_allowNumber {h : zw_H} {A : zA} {x v : Int32} {on : Bool} (W : CW h A) (hv : v = 0 ↔ on = false) : zcI 6 mX7_allowNumber [.ref 0, .int x, .int v] h (opC h (oNb A x on)) := by
  obtain ⟨v1, v2, v3, v4, v5, v6, v7, v8⟩ := id W.1.1
  unfold oNb
  refine zcI_of rfl pn_X7 (fun _ => Nat.le_of_ble_eq_true rfl) rfl (rX7_allowNumber_0 ⟨fun c => ?_, fun c => ⟨fun c2 => ?_, fun c2 => ?_⟩⟩)
  · rw [out16 (Or.inl c)]
    exact W.same _
  · obtain ⟨b, hb⟩ := in16 c c2
    obtain ⟨b1, b2, rfl⟩ := r16_some hb
    rw [hb]
    dsimp only
    refine caV (c_X1_remember W.1.1 W.2.2.1 W.2.2.2.1) (fun k1 r1 => ?_)
    have S1 : SO k1 1 2 A.1 := W.2.2.1.fr r1.2 (fun _ => by unfold pH; omega) (fun _ => by unfold pH; omega)
    rw [S1.2.2.1, zone (by omega)]
    refine ca (c_X7_withBits (by omega) hv) (fun k2 e2 => ?_)
    have V' : SV (sNb A.1 (sBit A.1.2.2.1 b on)) := ⟨v1, v2, v3, sBit_lt (m := 7) v4 (by omega), v5, v6, v7, v8⟩
    have S2 : SO k2 1 2 (sNb A.1 (sBit A.1.2.2.1 b on)) := S1.upd e2 rfl rfl rfl rfl rfl rfl (fun _ => rfl)
    have f2 : Fr (fun a _ => a = 1 ∨ a = 2) k1 k2 := Fr.rf.sI e2 (Or.inl rfl)
    refine caV (c_X7_refresh V' W.2.1.1 S2 (c_change_old W v2 r1.2 f2)) (fun k3 r3 => ?_)
    refine ⟨?_, c_change W V' W.2.1.1 r1.1 r1.2 S2 f2 r3⟩
    rw [W.2.2.1.2.2.1, zbit (by omega) (by omega)]
  · rw [out16 (Or.inr c2)]
    exact W.same _
theorem c_X7_isElement {h : zw_H} {A : zA} {i : Int32} (W : CW h A) : zpI 0 mX7_isElement [.ref 0, .int i] h (bI (iR i A.1.1)) := by
  have n2 := W.1.1.2.1
  refine zcI_of rfl pn_X7 (fun _ => Nat.le_of_ble_eq_true rfl) rfl (rX7_isElement_0 ?_)
  rw [W.2.2.1.1]
  exact ⟨fun c => ⟨(bI_f (iR_neg c (by omega))).symm, rfl⟩, fun c => ⟨fun c2 => ⟨(bI_f (iR_big c2 (by omega))).symm, rfl⟩, fun c2 => ⟨(bI_t (iR_of c c2 (by omega))).symm, rfl⟩⟩⟩
theorem kpp_kA {n a b : Nat} (n1 : 1 ≤ n) (n2 : n ≤ 6) (ha : a < n) (hb : b < n) (h : a ≠ b) : 2 ^ kpp a b &&& kA n = 2 ^ kpp a b := by
  rw [Nat.and_comm, and_bit]
  unfold kpp
  split
  · rw [kA_bit n1 n2 (by omega) (by omega), if_pos (by simpa using hb)]
  · rw [kA_bit n1 n2 (by omega) (by omega), if_pos (by simpa using ha)]
theorem zpair {set a b : Nat} (ha : a < 6) (hb : b < 6) (h : a ≠ b) : nI set &&& nI (pbit a b) = 0 ↔ set.testBit (kpp a b) = false := by
  have := kpp_lt ha hb h
  rw [pbit_kpp h]
  exact fa_bit (by omega)
theorem oAp_bad {A : zA} {x y : Int32} {on : Bool} (n2 : A.1.1 ≤ 6) (h : ¬ iR x A.1.1 ∨ ¬ iR y A.1.1 ∨ x = y) : oAp A x y on = (-1, A) := by
  unfold oAp
  cases hx : ri A.1.1 x with
  | none => rfl
  | some a =>
    cases hy : ri A.1.1 y with
    | none => rfl
    | some b =>
      obtain ⟨a1, rfl⟩ := ri_some hx
      obtain ⟨b1, rfl⟩ := ri_some hy
      dsimp only
      rw [if_pos]
      rcases h with h | h | h
      · exact absurd ⟨a, a1, rfl⟩ h
      · exact absurd ⟨b, b1, rfl⟩ h
      · exact zeq h
theorem oTg_bad {A : zA} {x y : Int32} {on : Bool} (n2 : A.1.1 ≤ 6) (h : ¬ iR x A.1.1 ∨ ¬ iR y A.1.1 ∨ x = y) : oTg A x y on = (-1, A) := by
  unfold oTg
  cases hx : ri A.1.1 x with
  | none => rfl
  | some a =>
    cases hy : ri A.1.1 y with
    | none => rfl
    | some b =>
      obtain ⟨a1, rfl⟩ := ri_some hx
      obtain ⟨b1, rfl⟩ := ri_some hy
      dsimp only
      rw [if_pos]
      rcases h with h | h | h
      · exact absurd ⟨a, a1, rfl⟩ h
      · exact absurd ⟨b, b1, rfl⟩ h
      · exact zeq h
theorem m7_apart {h : zw_H} {A : zA} {x y v : Int32} {on : Bool} (W : CW h A) (hv : v = 0 ↔ on = false) : zcI 6 mX7_apart [.ref 0, .int x, .int y, .int v] h (opC h (oAp A x y on)) := by
  obtain ⟨v1, v2, v3, v4, v5, v6, v7, v8⟩ := id W.1.1
  refine zcI_of rfl pn_X7 (fun _ => Nat.le_of_ble_eq_true rfl) rfl (rX7_apart_0 (ca (c_X7_isElement W) ⟨fun c => ?_, fun c => ca (c_X7_isElement W) ⟨fun c2 => ?_, fun c2 => ⟨fun c3 => ?_, fun c3 => ?_⟩⟩⟩))
  · rw [oAp_bad v2 (Or.inl (bI_0.mp c))]
    exact W.same _
  · rw [oAp_bad v2 (Or.inr (Or.inl (bI_0.mp c2)))]
    exact W.same _
  · obtain ⟨a, a1, rfl⟩ := bI_yes c
    obtain ⟨b, b1, rfl⟩ := bI_yes c2
    have hab : a ≠ b := fun z => c3 (by rw [z])
    have hk := kpp_lt (show a < 6 by omega) (show b < 6 by omega) hab
    have e : oAp A (nI a) (nI b) on = (nI (if A.1.2.2.2.1.testBit (kpp a b) then 1 else 0), chg A (sAp A.1 (sBit A.1.2.2.2.1 (kpp a b) on))) := by
      unfold oAp
      rw [ri_nI a1 (by omega), ri_nI b1 (by omega)]
      dsimp only
      rw [if_neg hab]
    refine ca (c_X7_pairBit h (by omega) (by omega)) ?_
    have go : ∀ ans : Int32, ans = nI (if A.1.2.2.2.1.testBit (kpp a b) then 1 else 0) → ∃ q : zw_H → Prop, zcV 1 mX1_remember [.ref 3, .ref 1] h q ∧ ∀ k1, q k1 → ∃ q2 : Int32 → zw_H → Prop, zcI 0 mX7_withBits [.int (k1.1 1 4), .int (nI (pbit a b)), .int v] k1 q2 ∧ ∀ (x2 : Int32) k2, q2 x2 k2 → ∀ k3, k3 = zw_sI k2 1 4 x2 → ∃ q3 : zw_H → Prop, zcV 5 mX7_refresh [.ref 0] k3 q3 ∧ ∀ k4, q3 k4 → opC h (oAp A (nI a) (nI b) on) ans k4 := by
      intro ans ea
      refine caV (c_X1_remember W.1.1 W.2.2.1 W.2.2.2.1) (fun k1 r1 => ?_)
      have S1 : SO k1 1 2 A.1 := W.2.2.1.fr r1.2 (fun _ => by unfold pH; omega) (fun _ => by unfold pH; omega)
      rw [S1.2.2.2.1, pbit_kpp hab]
      refine ca (c_X7_withBits (by omega) hv) (fun k2 e2 => ?_)
      have V' : SV (sAp A.1 (sBit A.1.2.2.2.1 (kpp a b) on)) := ⟨v1, v2, v3, v4, sBit_lt (m := 15) v5 (by omega), v6, v7, v8⟩
      have S2 : SO k2 1 2 (sAp A.1 (sBit A.1.2.2.2.1 (kpp a b) on)) := S1.upd e2 rfl rfl rfl rfl rfl rfl (fun _ => rfl)
      have f2 : Fr (fun a _ => a = 1 ∨ a = 2) k1 k2 := Fr.rf.sI e2 (Or.inl rfl)
      refine caV (c_X7_refresh V' W.2.1.1 S2 (c_change_old W v2 r1.2 f2)) (fun k3 r3 => ?_)
      rw [e]
      exact ⟨ea, c_change W V' W.2.1.1 r1.1 r1.2 S2 f2 r3⟩
    rw [W.2.2.1.2.2.2.1, zpair (by omega) (by omega) hab]
    refine ⟨fun c4 => go 0 (by rw [c4]; rfl), fun c4 => go 1 ?_⟩
    have : A.1.2.2.2.1.testBit (kpp a b) = true := by
      cases hx : A.1.2.2.2.1.testBit (kpp a b) with
      | true => rfl
      | false => exact absurd hx c4
    rw [this]
    rfl
  · rw [oAp_bad v2 (Or.inr (Or.inr c3))]
    exact W.same _
theorem m7_together {h : zw_H} {A : zA} {x y v : Int32} {on : Bool} (W : CW h A) (hv : v = 0 ↔ on = false) : zcI 6 mX7_together [.ref 0, .int x, .int y, .int v] h (opC h (oTg A x y on)) := by
  obtain ⟨v1, v2, v3, v4, v5, v6, v7, v8⟩ := id W.1.1
  refine zcI_of rfl pn_X7 (fun _ => Nat.le_of_ble_eq_true rfl) rfl (rX7_together_0 (ca (c_X7_isElement W) ⟨fun c => ?_, fun c => ca (c_X7_isElement W) ⟨fun c2 => ?_, fun c2 => ⟨fun c3 => ?_, fun c3 => ?_⟩⟩⟩))
  · rw [oTg_bad v2 (Or.inl (bI_0.mp c))]
    exact W.same _
  · rw [oTg_bad v2 (Or.inr (Or.inl (bI_0.mp c2)))]
    exact W.same _
  · obtain ⟨a, a1, rfl⟩ := bI_yes c
    obtain ⟨b, b1, rfl⟩ := bI_yes c2
    have hab : a ≠ b := fun z => c3 (by rw [z])
    have hk := kpp_lt (show a < 6 by omega) (show b < 6 by omega) hab
    have e : oTg A (nI a) (nI b) on = (nI (if A.1.2.2.2.2.1.testBit (kpp a b) then 1 else 0), chg A (sTg A.1 (sBit A.1.2.2.2.2.1 (kpp a b) on))) := by
      unfold oTg
      rw [ri_nI a1 (by omega), ri_nI b1 (by omega)]
      dsimp only
      rw [if_neg hab]
    have hT : (sTg A.1 (sBit A.1.2.2.2.2.1 (kpp a b) on)).2.2.2.2.1 &&& kA (sTg A.1 (sBit A.1.2.2.2.2.1 (kpp a b) on)).1 = (sTg A.1 (sBit A.1.2.2.2.2.1 (kpp a b) on)).2.2.2.2.1 := by
      show sBit A.1.2.2.2.2.1 (kpp a b) on &&& kA A.1.1 = sBit A.1.2.2.2.2.1 (kpp a b) on
      have h0 := W.2.1.1
      unfold sBit
      split
      · rw [and_or_sub]
        exact ⟨h0, kpp_kA v1 v2 a1 b1 hab⟩
      · rw [Nat.and_assoc, Nat.and_comm _ (kA A.1.1), ← Nat.and_assoc, h0]
    refine ca (c_X7_pairBit h (by omega) (by omega)) ?_
    have go : ∀ ans : Int32, ans = nI (if A.1.2.2.2.2.1.testBit (kpp a b) then 1 else 0) → ∃ q : zw_H → Prop, zcV 1 mX1_remember [.ref 3, .ref 1] h q ∧ ∀ k1, q k1 → ∃ q2 : Int32 → zw_H → Prop, zcI 0 mX7_withBits [.int (k1.1 1 5), .int (nI (pbit a b)), .int v] k1 q2 ∧ ∀ (x2 : Int32) k2, q2 x2 k2 → ∀ k3, k3 = zw_sI k2 1 5 x2 → ∃ q3 : zw_H → Prop, zcV 5 mX7_refresh [.ref 0] k3 q3 ∧ ∀ k4, q3 k4 → opC h (oTg A (nI a) (nI b) on) ans k4 := by
      intro ans ea
      refine caV (c_X1_remember W.1.1 W.2.2.1 W.2.2.2.1) (fun k1 r1 => ?_)
      have S1 : SO k1 1 2 A.1 := W.2.2.1.fr r1.2 (fun _ => by unfold pH; omega) (fun _ => by unfold pH; omega)
      rw [S1.2.2.2.2.1, pbit_kpp hab]
      refine ca (c_X7_withBits (by omega) hv) (fun k2 e2 => ?_)
      have V' : SV (sTg A.1 (sBit A.1.2.2.2.2.1 (kpp a b) on)) := ⟨v1, v2, v3, v4, v5, sBit_lt (m := 15) v6 (by omega), v7, v8⟩
      have S2 : SO k2 1 2 (sTg A.1 (sBit A.1.2.2.2.2.1 (kpp a b) on)) := S1.upd e2 rfl rfl rfl rfl rfl rfl (fun _ => rfl)
      have f2 : Fr (fun a _ => a = 1 ∨ a = 2) k1 k2 := Fr.rf.sI e2 (Or.inl rfl)
      refine caV (c_X7_refresh V' hT S2 (c_change_old W v2 r1.2 f2)) (fun k3 r3 => ?_)
      rw [e]
      exact ⟨ea, c_change W V' hT r1.1 r1.2 S2 f2 r3⟩
    rw [W.2.2.1.2.2.2.2.1, zpair (by omega) (by omega) hab]
    refine ⟨fun c4 => go 0 (by rw [c4]; rfl), fun c4 => go 1 ?_⟩
    have : A.1.2.2.2.2.1.testBit (kpp a b) = true := by
      cases hx : A.1.2.2.2.2.1.testBit (kpp a b) with
      | true => rfl
      | false => exact absurd hx c4
    rw [this]
    rfl
  · rw [oTg_bad v2 (Or.inr (Or.inr c3))]
    exact W.same _
theorem m7_noncrossing {h : zw_H} {A : zA} {v : Int32} {on : Bool} (W : CW h A) (hv : v = 0 ↔ on = false) (h01 : v = 0 ∨ v = 1) : zcI 6 mX7_noncrossing [.ref 0, .int v] h (opC h (oNc A on)) := by
  obtain ⟨v1, v2, v3, v4, v5, v6, v7, v8⟩ := id W.1.1
  have ev : v = nI (if on = true then 1 else 0) := by
    rcases h01 with z | z
    · rw [z, hv.mp z]; rfl
    · cases hx : on with
      | true => rw [z]; rfl
      | false =>
        have := hv.mpr hx
        rw [this] at z
        exact absurd z (by decide)
  have go : ∀ ans : Int32, ans = nI A.1.2.2.2.2.2.1 → ∃ q : zw_H → Prop, zcV 1 mX1_remember [.ref 3, .ref 1] h q ∧ ∀ k1, q k1 → (v = 0 ∨ v = 1) ∧ ∀ k2, k2 = zw_sI k1 1 6 v → ∃ q3 : zw_H → Prop, zcV 5 mX7_refresh [.ref 0] k2 q3 ∧ ∀ k4, q3 k4 → opC h (oNc A on) ans k4 := by
    intro ans ea
    refine caV (c_X1_remember W.1.1 W.2.2.1 W.2.2.2.1) (fun k1 r1 => ⟨h01, fun k2 e2 => ?_⟩)
    have S1 : SO k1 1 2 A.1 := W.2.2.1.fr r1.2 (fun _ => by unfold pH; omega) (fun _ => by unfold pH; omega)
    have V' : SV (sNc A.1 (if on = true then 1 else 0)) := ⟨v1, v2, v3, v4, v5, v6, (show (if on = true then 1 else 0) ≤ 1 by split <;> omega), v8⟩
    have S2 : SO k2 1 2 (sNc A.1 (if on = true then 1 else 0)) := S1.upd e2 rfl rfl rfl rfl rfl ev.symm (fun _ => rfl)
    have f2 : Fr (fun a _ => a = 1 ∨ a = 2) k1 k2 := Fr.rf.sI e2 (Or.inl rfl)
    refine caV (c_X7_refresh V' W.2.1.1 S2 (c_change_old W v2 r1.2 f2)) (fun k3 r3 => ?_)
    exact ⟨ea, c_change W V' W.2.1.1 r1.1 r1.2 S2 f2 r3⟩
  refine zcI_of rfl pn_X7 (fun _ => Nat.le_of_ble_eq_true rfl) rfl (rX7_noncrossing_0 ?_)
  rw [W.2.2.1.2.2.2.2.2.1]
  refine ⟨fun c => go 0 c.symm, fun c => go 1 ?_⟩
  have : A.1.2.2.2.2.2.1 = 1 := by
    have : A.1.2.2.2.2.2.1 ≠ 0 := fun z => c (by rw [z]; rfl)
    omega
  rw [this]
  rfl
theorem CW.tx {h h' : zw_H} {A : zA} {k : Nat} {x : Nat → Nat} (W : CW h A) (f : Fr (fun a _ => a = 25 ∨ a = 26) h h') (hk : k ≤ 20) (hx : ∀ i, i < k → x i < 128) (X : CX h' k x) : CW h' (tx A k x) := by
  obtain ⟨w1, w2, w3, w4, w5, w6, w7⟩ := W
  exact ⟨⟨w1.1, w1.2.1, hk, hx⟩, w2, w3.fr f (fun _ => by omega) (fun _ => by omega), w4.fr f (fun _ => by omega) (fun _ _ _ _ => by omega), X, w6.fr f (fun _ => by omega) (fun _ _ _ _ => by omega), w7.fr f (by omega) (fun _ _ _ _ => by omega)⟩
theorem m7_type {h : zw_H} {A : zA} {c : Int32} (W : CW h A) : zcI 1 mX7_type [.ref 0, .int c] h (opC h (oType A c)) := by
  obtain ⟨x1, x2⟩ := W.2.2.2.2.1
  have hk := W.1.2.2.1
  have hiR := iR_in (x := c) (n := 128) (m := 127) (by omega) (by omega) rfl
  unfold oType
  refine zcI_of rfl pn_X7 (fun _ => Nat.le_of_ble_eq_true rfl) rfl (rX7_type_0 ⟨fun d => ?_, fun d => ⟨fun d2 => ?_, fun d2 => ?_⟩⟩)
  · rw [(ri_none (by omega)).mpr (fun z => (hiR.mp z).1 d)]
    exact W.same _
  · obtain ⟨v, hv⟩ := (ri_iR (by omega)).mp (hiR.mpr ⟨d, fun z => by
      rw [Int32.lt_iff_toInt_lt] at z
      rw [Int32.le_iff_toInt_le] at d2
      omega⟩)
    obtain ⟨v1, rfl⟩ := ri_some hv
    rw [hv]
    dsimp only
    by_cases k20 : A.2.2.2.1 = 20
    · rw [if_pos k20]
      have ct : zpI 0 mX6_append [.ref 25, .int (nI v)] h 0 := zcI_of rfl pn_X6 (fun _ => Nat.le_of_ble_eq_true rfl) rfl (rX6_append_0 ⟨fun z => absurd z (by rw [x1, k20]; decide), fun _ => ⟨rfl, rfl⟩⟩)
      exact ca ct ⟨fun _ => W.same _, fun z => absurd rfl z⟩
    · rw [if_neg k20]
      have ct : zcI 0 mX6_append [.ref 25, .int (nI v)] h (fun x h' => x = 1 ∧ h'.1 25 1 = nI (A.2.2.2.1 + 1) ∧ h'.1 26 A.2.2.2.1 = nI v ∧ Fr (fun a b => a = 25 ∨ a = 26 ∧ b = A.2.2.2.1) h h') := by
        refine zcI_of rfl pn_X6 (fun _ => Nat.le_of_ble_eq_true rfl) rfl (rX6_append_0 ⟨fun _ => ⟨A.2.2.2.1, x1, by omega, fun k2 e2 k3 e3 => ?_⟩, fun z => absurd ?_ z⟩)
        · have y : k2.1 25 1 = nI A.2.2.2.1 := by rw [e2, zw_sI_n (Or.inl (by decide))]; exact x1
          rw [y, nI_1] at e3
          refine ⟨rfl, by rw [e3, zw_sI_s], by rw [e3, zw_sI_n (Or.inl (by decide)), e2, zw_sI_s], ?_⟩
          exact (Fr.rf.sI e2 (Or.inr ⟨rfl, rfl⟩)).sI e3 (Or.inl rfl)
        · rw [x1]
          exact nI_lt (b := 20) (show A.2.2.2.1 < 20 by omega) (by omega)
      refine cr ct (fun x k r => ⟨fun z => ?_, fun _ => ?_⟩)
      · rw [r.1] at z
        exact absurd z (by decide)
      · obtain ⟨_, r2, r3, r4⟩ := r
        refine ⟨r2, W.tx (r4.mo (fun a b z => by omega)) (by omega) (fun i hi => ?_) ⟨r2, fun i hi => ?_⟩, r4.mo (fun a b z => by unfold pC; omega)⟩
        · by_cases hx : i = A.2.2.2.1
          · rw [if_pos hx]; exact v1
          · rw [if_neg hx]; exact W.1.2.2.2 i (by omega)
        · dsimp only
          by_cases hx : i = A.2.2.2.1
          · rw [if_pos hx, hx, r3]
          · rw [if_neg hx, r4.1 26 i (by omega)]
            exact x2 i (by omega)
  · rw [(ri_none (by omega)).mpr (fun z => d2 (by
      have := (hiR.mp z).2
      rw [Int32.lt_iff_toInt_lt] at this
      rw [Int32.le_iff_toInt_le]
      omega))]
    exact W.same _
theorem m7_clear {h : zw_H} {A : zA} (W : CW h A) : zcI 0 mX7_clear [.ref 0] h (opC h (oClear A)) := by
  refine zcI_of rfl pn_X7 (fun _ => Nat.le_of_ble_eq_true rfl) rfl (rX7_clear_0 (fun k1 e1 => ⟨W.2.2.2.2.1.1, ?_, Fr.rf.sI e1 (by unfold pC; omega)⟩))
  exact W.tx (Fr.rf.sI e1 (Or.inl rfl)) (by omega) (fun _ h => absurd h (by omega)) ⟨by rw [e1, zw_sI_s]; rfl, fun _ h => absurd h (by omega)⟩
