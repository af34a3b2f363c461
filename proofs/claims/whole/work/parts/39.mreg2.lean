/-- the row now: coarser than a, finer than all that hold the pairs m -/
def JI (h : zw_H) (n m a : Nat) : Prop := (∀ i j, i < n → j < n → ks n a i = ks n a j → h.1 62 i = h.1 62 j) ∧ ∀ c, c < kN n → m &&& km n c = m → ∀ i j, i < n → j < n → h.1 62 i = h.1 62 j → ks n c i = ks n c j
/-- two blocks of the row now are united -/
theorem JI.merge {h h' : zw_H} {n m a i j : Nat} (I : JI h n m a) (hi : i < n) (hj : j < n) (hm : ∀ c, c < kN n → m &&& km n c = m → ks n c i = ks n c j) (e : ∀ e, e < n → h'.1 62 e = if h.1 62 e = h.1 62 j then h.1 62 i else h.1 62 e) : JI h' n m a ∧ h'.1 62 i = h'.1 62 j ∧ ∀ i' j', i' < n → j' < n → h.1 62 i' = h.1 62 j' → h'.1 62 i' = h'.1 62 j' := by
  obtain ⟨I1, I2⟩ := I
  have keep : ∀ i' j', i' < n → j' < n → h.1 62 i' = h.1 62 j' → h'.1 62 i' = h'.1 62 j' := fun i' j' hi' hj' z => by rw [e i' hi', e j' hj', z]
  refine ⟨⟨fun i' j' hi' hj' z => keep i' j' hi' hj' (I1 i' j' hi' hj' z), fun c hc hmc i' j' hi' hj' z => ?_⟩, ?_, keep⟩
  · rw [e i' hi', e j' hj'] at z
    have hij := hm c hc hmc
    by_cases x : h.1 62 i' = h.1 62 j
    · by_cases y : h.1 62 j' = h.1 62 j
      · exact (I2 c hc hmc i' j hi' hj x).trans (I2 c hc hmc j' j hj' hj y).symm
      · rw [if_pos x, if_neg y] at z
        exact ((I2 c hc hmc i' j hi' hj x).trans hij.symm).trans (I2 c hc hmc i j' hi hj' z)
    · by_cases y : h.1 62 j' = h.1 62 j
      · rw [if_neg x, if_pos y] at z
        exact (I2 c hc hmc i' i hi' hi z).trans (hij.trans (I2 c hc hmc j' j hj' hj y).symm)
      · rw [if_neg x, if_neg y] at z
        exact I2 c hc hmc i' j' hi' hj' z
  · rw [e i hi, e j hj, if_pos rfl]
    split <;> rfl
/-- if it holds the pairs it is the lowest one -/
theorem JI_lub {h : zw_H} {n m a : Nat} (h1 : 1 ≤ n) (h2 : n ≤ 6) (hA : m &&& kA n = m) (I : JI h n m a) (hold : ∀ i j, i < j → j < n → m.testBit (kp i j) = true → h.1 62 i = h.1 62 j) : ∀ i j, j < i → i < n → (h.1 62 i = h.1 62 j ↔ ks n (lub n m) i = ks n (lub n m) j) := by
  obtain ⟨I1, I2⟩ := I
  have l1 := lub_iff (m := m) h1 h2
  have lh := lub_holds h1 h2 hA
  intro i j hj hi
  obtain ⟨g, hg, hw⟩ := canon_ex (fun e => h.1 62 e) n h1 h2
  have hgm : m &&& km n g = m := by
    have hm15 : m < 32768 := by
      rw [← hA]
      exact Nat.lt_of_le_of_lt Nat.and_le_right (km_lt h1 h2 (by have := kN_le h1 h2; omega))
    apply Nat.eq_of_testBit_eq
    intro p
    rw [Nat.testBit_and]
    by_cases hp : p < 15
    · obtain ⟨i, hi6, j, hj6, hij, rfl⟩ := kp_onto p hp
      cases hb : m.testBit (kp i j) with
      | false => rfl
      | true =>
        have h3 := congrArg (fun z => z.testBit (kp i j)) hA
        simp only [Nat.testBit_and, hb, kA_bit h1 h2 hij hj6, Bool.true_and, decide_eq_true_eq] at h3
        rw [km_bit h1 h2 hg hij hj6]
        have := (hw i j (by omega) h3).mp (hold i j hij h3 hb)
        simp [h3, this]
    · have : m.testBit p = false := Nat.testBit_lt_two_pow (Nat.lt_of_lt_of_le hm15 (by
        have := Nat.pow_le_pow_right (n := 2) (by decide) (show 15 ≤ p by omega)
        omega))
      rw [this]
      rfl
  have e : lub n m = g := lub_eq h1 h2 hA hg hgm (fun c hc hmc => (le_iff h1 h2 hg hc).mpr (fun i' j' hi' hj' z => I2 c hc hmc i' j' (by omega) hj' ((hw i' j' (by omega) hj').mpr z)))
  rw [e]
  exact hw i j hi (by omega)
/-- the row now, as the partition g, comes into a register -/
theorem m_numputs' {h h1 : zw_H} {A : zA} {t g : Nat} (W : RW h1 A) (F : Fr pR h h1) (ht : t < 8) (hg : g < kN A.1.1) (hx : ∀ i j, j < i → i < A.1.1 → (h1.1 62 i = h1.1 62 j ↔ ks A.1.1 g i = ks A.1.1 g j)) : ∃ q : Int32 → zw_H → Prop, zcI 1 mX8_numberOf [.ref 56] h1 q ∧ ∀ (x : Int32) (h2 : zw_H), q x h2 → ∃ q2 : Int32 → zw_H → Prop, zcI 1 mX8_puts [.ref 56, .int (nI t), .int x] h2 q2 ∧ ∀ (x2 : Int32) (h3 : zw_H), q2 x2 h3 → opR h (oT A 0 (nI t) g) x2 h3 :=
  ca (c_X8_numberOf W.2.1 hg hx) (m_puts W F ht hg)
theorem JI.takes {h : zw_H} {n m a : Nat} (h1 : 1 ≤ n) (h2 : n ≤ 6) (ha : a < kN n) (hm : km n a &&& m = km n a) (e : ∀ e, e < n → h.1 62 e = nI (ks n a e)) : JI h n m a := by
  refine ⟨fun i j hi hj z => by rw [e i hi, e j hj, z], fun c hc hmc i j hi hj z => ?_⟩
  have i1 := ks_lt h1 h2 ha hi
  have i2 := ks_lt h1 h2 ha hj
  rw [e i hi, e j hj] at z
  have z2 := zeq z
  have hac : le n a c := by
    unfold le
    rw [← hm, Nat.and_assoc, hmc]
  by_cases hij : i = j
  · rw [hij]
  · rcases Nat.lt_or_ge i j with hl | hl
    · exact (le_iff h1 h2 ha hc).mp hac i j hl hj z2
    · exact ((le_iff h1 h2 ha hc).mp hac j i (by omega) hi z2.symm).symm
theorem m_join {h : zw_H} {A : zA} {r s t : Int32} (W : RW h A) : zcI 3 mX8_join [.ref 56, .int r, .int s, .int t] h (opR h (oT A (wr2 A.1 r s) t (lub A.1.1 (km A.1.1 (rgt A.1 r) ||| km A.1.1 (rgt A.1 s))))) := by
  refine zcI_of rfl pn_X8 (fun _ => Nat.le_of_ble_eq_true rfl) rfl (rX8_join_0 (ca (c_X8_isRegister h t) ⟨fun c => ca (c_X8_wrongOf W.1.1 W.2.2.1) ⟨fun c2 => ?_, fun c2 => ?_⟩, fun c => ?_⟩))
  · obtain ⟨k, hk, rfl⟩ := bI_yes c
    obtain ⟨d1, d2⟩ := wr2_0 c2
    obtain ⟨a, a1, a2, a3, a4⟩ := rgt_ok W.1.1 d1
    obtain ⟨b, b1, b2, b3, b4⟩ := rgt_ok W.1.1 d2
    have n1 := W.2.1.1
    have n2 := W.2.1.2.1
    rw [c2]
    generalize hm : km A.1.1 (rgt A.1 r) ||| km A.1.1 (rgt A.1 s) = m
    have hsub : km A.1.1 (rgt A.1 r) &&& m = km A.1.1 (rgt A.1 r) ∧ km A.1.1 (rgt A.1 s) &&& m = km A.1.1 (rgt A.1 s) := and_or_sub.mp (by rw [hm, Nat.and_self])
    have hA : m &&& kA A.1.1 = m := by
      rw [← hm, and_or_sub]
      exact ⟨km_kA n1 n2 a4, km_kA n1 n2 b4⟩
    refine ca (c_X8_heldR W.1.1 W.2.2.1 d1) (caV (c_X8_takes W.2.1 a4) (fun k1 r1 => ?_))
    refine lp_up (P := fun i => ∀ k2, Fr (fun a _ => a = 62) h k2 → JI k2 A.1.1 m (rgt A.1 r) → (∀ i' j', j' < i' → i' < i → ks A.1.1 (rgt A.1 s) i' = ks A.1.1 (rgt A.1 s) j' → k2.1 62 i' = k2.1 62 j') → zwI 3 mX8_join (opR h (oT A 0 (nI k) (lub A.1.1 m))) 37 [(0, .ref 56), (2, .int s), (3, .int (nI k)), (5, .int (nI i))] [] k2) (N := A.1.1) ?_ ?_ 0 (by omega) k1 r1.2 (JI.takes n1 n2 a4 hsub.1 r1.1) (fun _ _ _ h => absurd h (by omega))
    · intro k2 fr I done
      have W2 := W.now fr
      refine rX8_join_37 ⟨fun _ => m_numputs' W2 (fr.mo (fun a b z => by unfold pR; omega)) hk (lub_iff n1 n2).1 (JI_lub n1 n2 hA I (fun i j hi hj hb => ?_)), fun c => absurd (by rw [W2.2.1.2.2.1]; exact nI_le (Nat.le_refl _) (by omega)) c⟩
      rw [← hm, Nat.testBit_or, km_bit n1 n2 a4 hi (by omega), km_bit n1 n2 b4 hi (by omega)] at hb
      simp only [Bool.or_eq_true, Bool.and_eq_true, decide_eq_true_eq] at hb
      rcases hb with hb | hb
      · exact I.1 i j (by omega) hj hb.2
      · exact (done j i hi hj hb.2.symm).symm
    · intro i hi ih k2 fr I done
      have W2 := W.now fr
      refine rX8_join_37 ⟨fun c => ?_, fun _ => ?_⟩
      · rw [W2.2.1.2.2.1] at c
        have := zle c
        omega
      refine lp_up (P := fun j => ∀ k3, Fr (fun a _ => a = 62) h k3 → JI k3 A.1.1 m (rgt A.1 r) → (∀ i' j', j' < i' → i' < i → ks A.1.1 (rgt A.1 s) i' = ks A.1.1 (rgt A.1 s) j' → k3.1 62 i' = k3.1 62 j') → (∀ j', j' < j → ks A.1.1 (rgt A.1 s) i = ks A.1.1 (rgt A.1 s) j' → k3.1 62 i = k3.1 62 j') → zwI 3 mX8_join (opR h (oT A 0 (nI k) (lub A.1.1 m))) 51 [(0, .ref 56), (2, .int s), (3, .int (nI k)), (5, .int (nI i)), (6, .int (nI j))] [] k3) (N := i) ?_ ?_ 0 (by omega) k2 fr I done (fun _ h => absurd h (by omega))
      · intro k3 fr I done done2
        refine rX8_join_51 ⟨fun _ => ?_, fun c => absurd (nI_le (Nat.le_refl i) (by omega)) c⟩
        rw [nI_1]
        refine ih k3 fr I (fun i' j' h7 h8 => ?_)
        by_cases hx : i' = i
        · subst hx
          exact done2 j' h7
        · exact done i' j' h7 (by omega)
      · intro j hj ih2 k3 fr I done done2
        have W3 := W.now fr
        have i1 := ks_lt n1 n2 b4 hi
        have i2 := ks_lt n1 n2 b4 (show j < A.1.1 by omega)
        refine rX8_join_51 ⟨fun c => ?_, fun _ => ca (c_X8_heldR W3.1.1 W3.2.2.1 d2) (ca (c_X8_at W3.2.1 b4 hi) (ca (c_X8_heldR W3.1.1 W3.2.2.1 d2) (ca (c_X8_at W3.2.1 b4 (by omega)) ⟨fun c => ?_, fun c => ⟨i, rfl, by omega, j, rfl, by omega, caV (c_X8_merges W3.2.1) (fun k4 r4 => ?_)⟩⟩)))⟩
        · have := zle c
          omega
        · rw [nI_1]
          refine ih2 k3 fr I done (fun j' h7 => ?_)
          by_cases hx : j' = j
          · subst hx
            exact fun z => absurd z (zne c)
          · exact done2 j' (by omega)
        · obtain ⟨J1, J2, J3⟩ := I.merge hi (show j < A.1.1 by omega) (fun c' hc hmc => by
            have hbc : le A.1.1 (rgt A.1 s) c' := by
              unfold le
              rw [← hsub.2, Nat.and_assoc, hmc]
            exact ((le_iff n1 n2 b4 hc).mp hbc j i hj hi (zeq c).symm).symm) r4.1
          rw [nI_1]
          refine ih2 k4 (fr.tr r4.2) J1 (fun i' j' h7 h8 z => J3 i' j' (by omega) (by omega) (done i' j' h7 h8 z)) (fun j' h7 z => ?_)
          by_cases hx : j' = j
          · subst hx
            exact J2
          · exact J3 i j' hi (by omega) (done2 j' (by omega) z)
  · rw [oT_f (bI_yes c) c2]
    exact W.same _
  · rw [oT_bad (bI_0.mp c)]
    exact W.same _
/-- fault of a register that is read and an element (two elements) -/
def wrE (s : zS) (r i j : Int32) : Int32 := match ri s.1 i, ri s.1 j with
  | some _, some _ => wr1 s r
  | _, _ => -1
/-- an element as a number -/
def el (n : Nat) (i : Int32) : Nat := (ri n i).getD 0
theorem wr1_bad {s : zS} {r : Int32} (h : ¬ iR r 8) : wr1 s r = -1 := by
  unfold wr1
  rw [(ri_none (by omega)).mpr h]
theorem wr1_reg {s : zS} {a : Nat} (ha : a < 8) : wr1 s (nI a) = if (s.2.2.2.2.2.2 a).isSome = true then 0 else -2 := by
  unfold wr1
  rw [ri_nI ha (by omega)]
theorem oT_f' {A : zA} {f t : Int32} {g : Nat} (hf : f ≠ 0) (h : iR t 8 ∨ f = -1) : oT A f t g = (f, A) := by
  by_cases hi : iR t 8
  · exact oT_f hi hf
  · rcases h with h | h
    · exact absurd h hi
    · rw [oT_bad hi, h]
theorem kp_inj' : ((kP 6).all fun p => (kP 6).all fun q => !(decide (kp p.1 p.2 = kp q.1 q.2)) || decide (p = q)) = true := by decide +kernel
theorem kp_inj {p q i j : Nat} (h1 : p < q) (h2 : q < 6) (h3 : i < j) (h4 : j < 6) (e : kp p q = kp i j) : p = i ∧ q = j := by
  have h := List.all_eq_true.mp (List.all_eq_true.mp kp_inj' (p, q) (kP_mem h1 h2)) (i, j) (kP_mem h3 h4)
  rw [decide_eq_true e] at h
  have h := of_decide_eq_true h
  exact ⟨congrArg Prod.fst h, congrArg Prod.snd h⟩
theorem m_unite {h : zw_H} {A : zA} {r i j : Int32} (W : RW h A) : zcI 2 mX8_unite [.ref 56, .int r, .int i, .int j] h (opR h (oT A (wrE A.1 r i j) r (lub A.1.1 (km A.1.1 (rgt A.1 r) ||| pbit (el A.1.1 i) (el A.1.1 j))))) := by
  have n1 := W.2.1.1
  have n2 := W.2.1.2.1
  have h57 := W.2.1.2.2.1
  refine zcI_of rfl pn_X8 (fun _ => Nat.le_of_ble_eq_true rfl) rfl (rX8_unite_0 (ca (c_X8_isRegister h r) ⟨fun c => ?_, fun c => ca (c_X8_isElement h57 n1 n2) ⟨fun c2 => ?_, fun c2 => ca (c_X8_isElement h57 n1 n2) ⟨fun c3 => ?_, fun c3 => ?_⟩⟩⟩))
  · rw [oT_bad (bI_0.mp c)]
    exact W.same _
  · have e : wrE A.1 r i j = -1 := by
      unfold wrE
      rw [(ri_none (by omega)).mpr (bI_0.mp c2)]
    rw [oT_f' (by rw [e]; decide) (Or.inr e), e]
    exact W.same _
  · obtain ⟨k, hk, rfl⟩ := bI_yes c
    obtain ⟨x, hx, rfl⟩ := bI_yes c2
    obtain ⟨y, hy, rfl⟩ := bI_yes c3
    have e : wrE A.1 (nI k) (nI x) (nI y) = wr1 A.1 (nI k) := by
      unfold wrE
      rw [ri_nI hx (by omega), ri_nI hy (by omega)]
    have ex : el A.1.1 (nI x) = x := by unfold el; rw [ri_nI hx (by omega)]; rfl
    have ey : el A.1.1 (nI y) = y := by unfold el; rw [ri_nI hy (by omega)]; rfl
    rw [e, ex, ey]
    refine ca (c_X8_held W.2.2.1 hk) ⟨fun c4 => ?_, fun c4 => ?_⟩
    · have hs : (A.1.2.2.2.2.2.2 k).isSome = true := Classical.byContradiction (fun z => c4 ((reg_9 W.1.1 hk).mpr z))
      have d1 : wr1 A.1 (nI k) = 0 := by rw [wr1_reg hk, if_pos hs]
      obtain ⟨a, a1, a2, a3, a4⟩ := rgt_ok W.1.1 d1
      rw [d1]
      generalize hm : km A.1.1 (rgt A.1 (nI k)) ||| pbit x y = m
      have hsub : km A.1.1 (rgt A.1 (nI k)) &&& m = km A.1.1 (rgt A.1 (nI k)) ∧ pbit x y &&& m = pbit x y := and_or_sub.mp (by rw [hm, Nat.and_self])
      have pA' : pbit x y &&& kA A.1.1 = pbit x y := by
        by_cases hxy : x = y
        · unfold pbit
          rw [if_pos hxy, Nat.zero_and]
        · rw [pbit_kpp hxy, Nat.and_comm, and_bit]
          unfold kpp
          split
          · rw [kA_bit n1 n2 (by omega) (by omega), if_pos (by simpa using hy)]
          · rw [kA_bit n1 n2 (by omega) (by omega), if_pos (by simpa using hx)]
      have hA : m &&& kA A.1.1 = m := by
        rw [← hm, and_or_sub]
        exact ⟨km_kA n1 n2 a4, pA'⟩
      have hxy : ∀ c, c < kN A.1.1 → m &&& km A.1.1 c = m → ks A.1.1 c x = ks A.1.1 c y := by
        intro c hc hmc
        by_cases hxy : x = y
        · rw [hxy]
        · have h5 : pbit x y &&& km A.1.1 c = pbit x y := by rw [← hsub.2, Nat.and_assoc, hmc]
          rw [pbit_kpp hxy, Nat.and_comm, and_bit] at h5
          have hb : (km A.1.1 c).testBit (kpp x y) = true := by
            cases hz : (km A.1.1 c).testBit (kpp x y) with
            | true => rfl
            | false =>
              rw [hz] at h5
              have := Nat.two_pow_pos (kpp x y)
              simp at h5
              omega
          unfold kpp at hb
          split at hb
          · rw [km_bit n1 n2 hc (by omega) (by omega)] at hb
            simp only [Bool.and_eq_true, decide_eq_true_eq] at hb
            exact hb.2
          · rw [km_bit n1 n2 hc (by omega) (by omega)] at hb
            simp only [Bool.and_eq_true, decide_eq_true_eq] at hb
            exact hb.2.symm
      refine ca (c_X8_heldR W.1.1 W.2.2.1 d1) (caV (c_X8_takes W.2.1 a4) (fun k1 r1 => ⟨x, rfl, by omega, y, rfl, by omega, ?_⟩))
      have W1 := W.now r1.2
      refine caV (c_X8_merges W1.2.1) (fun k2 r2 => ?_)
      have W2 := W1.now r2.2
      obtain ⟨J1, J2, J3⟩ := (JI.takes (m := m) n1 n2 a4 hsub.1 r1.1).merge hx hy hxy r2.1
      refine m_numputs' W2 ((r1.2.tr r2.2).mo (fun a b z => by unfold pR; omega)) hk (lub_iff n1 n2).1 (JI_lub n1 n2 hA J1 (fun i j hi hj hb => ?_))
      rw [← hm, Nat.testBit_or, km_bit n1 n2 a4 hi (by omega)] at hb
      simp only [Bool.or_eq_true, Bool.and_eq_true, decide_eq_true_eq] at hb
      rcases hb with hb | hb
      · exact J1.1 i j (by omega) hj hb.2
      · by_cases hxy2 : x = y
        · unfold pbit at hb
          rw [if_pos hxy2] at hb
          simp at hb
        · rw [pbit_kpp hxy2, Nat.testBit_two_pow, decide_eq_true_eq] at hb
          unfold kpp at hb
          split at hb
          · obtain ⟨rfl, rfl⟩ := kp_inj (show x < y by omega) (show y < 6 by omega) hi (show j < 6 by omega) hb
            exact J2
          · obtain ⟨rfl, rfl⟩ := kp_inj (show y < x by omega) (show x < 6 by omega) hi (show j < 6 by omega) hb
            exact J2.symm
    · have hs := (reg_9 W.1.1 hk).mp c4
      have d1 : wr1 A.1 (nI k) = -2 := by rw [wr1_reg hk, if_neg hs]
      rw [d1, oT_f ⟨k, hk, rfl⟩ (by decide)]
      exact W.same _
  · have e : wrE A.1 r i j = -1 := by
      unfold wrE
      rw [(ri_none (r := j) (by omega)).mpr (bI_0.mp c3)]
      cases ri A.1.1 i <;> rfl
    rw [oT_f' (by rw [e]; decide) (Or.inr e), e]
    exact W.same _
