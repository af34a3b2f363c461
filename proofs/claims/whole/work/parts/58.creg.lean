theorem encC_1 {s : zS} (V : SV s) {a : Nat} (ha : a < 8) : encC s.1 (s.2.2.2.2.2.2 a) = -1 ↔ ¬ (s.2.2.2.2.2.2 a).isSome = true := by
  cases hx : s.2.2.2.2.2.2 a with
  | none => exact ⟨fun _ => (by decide), fun _ => rfl⟩
  | some g =>
    have hm := km_lt V.1 V.2.1 (V.2.2.2.2.2.2.2 a g ha hx)
    refine ⟨fun z => ?_, fun z => absurd rfl z⟩
    have z : nI (km s.1 g) = -1 := z
    have h3 := congrArg Int32.toInt z
    rw [nI_toInt (by omega)] at h3
    have : (-1 : Int32).toInt = -1 := by decide
    omega
theorem wr2_self (s : zS) (r : Int32) : wr2 s r r = wr1 s r := by
  unfold wr2 wr1
  cases hr : ri 8 r with
  | none => rfl
  | some a =>
    dsimp only
    by_cases hx : (s.2.2.2.2.2.2 a).isSome = true
    · rw [if_pos hx, if_pos ⟨hx, hx⟩]
    · rw [if_neg hx, if_neg (fun z => hx z.1)]
def fo (s : zS) (r q v : Int32) : Int32 := if v = 0 then -1 else wr2 s r q
theorem c_X7_faultOf {h : zw_H} {A : zA} {r q v : Int32} (W : CW h A) : zpI 1 mX7_faultOf [.ref 0, .int r, .int q, .int v] h (fo A.1 r q v) := by
  have V := W.1.1
  have S := W.2.2.1
  unfold fo
  refine zcI_of rfl pn_X7 (fun _ => Nat.le_of_ble_eq_true rfl) rfl (rX7_faultOf_0 ⟨fun c => ⟨by rw [if_pos c], rfl⟩, fun c => ca (c_X7_isRegister h r) ⟨fun c2 => ⟨?_, rfl⟩, fun c2 => ca (c_X7_isRegister h q) ⟨fun c3 => ?_, fun c3 => ⟨?_, rfl⟩⟩⟩⟩)
  · rw [if_neg c, wr2_bad1 (bI_0.mp c2)]
  · obtain ⟨a, ha, rfl⟩ := bI_yes c2
    obtain ⟨b, hb, rfl⟩ := bI_yes c3
    rw [if_neg c]
    refine ⟨a, rfl, ha, ?_⟩
    rw [S.2.2.2.2.2.2 a ha]
    have e : wr2 A.1 (nI a) (nI b) = if (A.1.2.2.2.2.2.2 a).isSome = true ∧ (A.1.2.2.2.2.2.2 b).isSome = true then 0 else -2 := by
      unfold wr2
      rw [ri_nI ha (by omega), ri_nI hb (by omega)]
    rw [e]
    refine ⟨fun c4 => ⟨?_, rfl⟩, fun c4 => ⟨b, rfl, hb, ?_⟩⟩
    · rw [if_neg (fun z => (encC_1 V ha).mp c4 z.1)]
    · rw [S.2.2.2.2.2.2 b hb]
      refine ⟨fun c5 => ⟨?_, rfl⟩, fun c5 => ⟨?_, rfl⟩⟩
      · rw [if_pos ⟨Classical.byContradiction (fun z => c4 ((encC_1 V ha).mpr z)), Classical.byContradiction (fun z => c5 ((encC_1 V hb).mpr z))⟩]
      · rw [if_neg (fun z => (encC_1 V hb).mp c5 z.2)]
  · rw [if_neg c, wr2_bad2 (bI_0.mp c3)]
theorem fo_1 (s : zS) (r q : Int32) : fo s r q 1 = wr2 s r q := if_neg (by decide)
theorem fo_0 (s : zS) (r q : Int32) : fo s r q 0 = -1 := if_pos rfl
theorem fo_ok {s : zS} {r q v : Int32} (h : fo s r q v = 0) : ¬ v = 0 ∧ wr2 s r q = 0 := by
  unfold fo at h
  by_cases hv : v = 0
  · rw [if_pos hv] at h
    exact absurd h (by decide)
  · rw [if_neg hv] at h
    exact ⟨hv, h⟩
/-- a register that can be read, in the class -/
theorem CW.reg {h : zw_H} {A : zA} {r : Int32} (W : CW h A) (hw : wr1 A.1 r = 0) : ∃ a, a < 8 ∧ r = nI a ∧ A.1.2.2.2.2.2.2 a = some (rgt A.1 r) ∧ rgt A.1 r < kN A.1.1 ∧ h.1 2 a = nI (km A.1.1 (rgt A.1 r)) := by
  obtain ⟨a, a1, a2, a3, a4⟩ := rgt_ok W.1.1 hw
  refine ⟨a, a1, a2, a3, a4, ?_⟩
  rw [W.2.2.1.2.2.2.2.2.2 a a1, a3]
  rfl
theorem c_X7_blockCountOf {h : zw_H} {A : zA} {g : Nat} (W : CW h A) (hg : g < kN A.1.1) : zcI 3 mX7_blockCountOf [.ref 0, .int (nI (km A.1.1 g))] h (fun x h' => x = nI (kB A.1.1 g) ∧ Fr pQ h h') := by
  refine zcI_of rfl pn_X7 (fun _ => Nat.le_of_ble_eq_true rfl) rfl (rX7_blockCountOf_0 ?_)
  rw [W.2.2.1.1]
  exact caV (c_X3_spell zs_48 zs_49 zs_50 (by omega) (by omega) (by omega) W.1.1.1 W.1.1.2.1 hg) (fun k r => ⟨r.1.2.1, r.2.mo (fun a b z => by unfold pSh at z; unfold pQ; omega)⟩)
theorem c_X7_spellRegister {h : zw_H} {A : zA} {r : Int32} (W : CW h A) (hw : wr1 A.1 r = 0) : zcV 3 mX7_spellRegister [.ref 0, .int r] h (fun h' => SP h' 48 49 50 A.1.1 (rgt A.1 r) ∧ Fr pQ h h') := by
  obtain ⟨a, a1, a2, a3, a4, a5⟩ := W.reg hw
  refine zcV_of rfl pn_X7 (fun _ => Nat.le_of_ble_eq_true rfl) rfl (rX7_spellRegister_0 ⟨a, a2, a1, ?_⟩)
  rw [a5, W.2.2.1.1]
  exact caV (c_X3_spell zs_48 zs_49 zs_50 (by omega) (by omega) (by omega) W.1.1.1 W.1.1.2.1 a4) (fun k r => ⟨r.1, r.2.mo (fun a b z => by unfold pSh at z; unfold pQ; omega)⟩)
/-- a register is changed -/
theorem c_regset {h k1 k2 : zw_H} {A : zA} {t g : Nat} (W : CW h A) (ht : t < 8) (hg : g < kN A.1.1) (C1 : CH k1 (mpush A.2.1) (hpush A.1 A.2.2.1)) (f1 : Fr pH h k1) (e2 : k2 = zw_sI k1 2 t (nI (km A.1.1 g))) : CW k2 (chg A (sReg A.1 t (some g))) ∧ Fr pC h k2 := by
  obtain ⟨w1, w2, w3, w4, w5, w6, w7⟩ := W
  have hm := w4.choose_spec.2.2.2.1
  have f2 : Fr (fun a b => a = 2 ∧ b = t) k1 k2 := Fr.rf.sI e2 ⟨rfl, rfl⟩
  have S1 : SO k1 1 2 A.1 := w3.fr f1 (fun _ => by unfold pH; omega) (fun _ => by unfold pH; omega)
  refine ⟨⟨w1.chg (w1.1.reg hg) hm, w2.chg w2.1 hm, ?_, C1.fr f2 (fun _ => by omega) (fun _ _ _ _ => by omega), (w5.fr f1 (fun _ => by unfold pH; omega) (fun _ => by unfold pH; omega)).fr f2 (fun _ => by omega) (fun _ => by omega), (w6.fr f1 (fun _ => by unfold pH; omega) (fun _ _ _ _ => by unfold pH; omega)).fr f2 (fun _ => by omega) (fun _ _ _ _ => by omega), (w7.fr f1 (by unfold pH; omega) (fun _ _ _ _ => by unfold pH; omega)).fr f2 (by omega) (fun _ _ _ _ => by omega)⟩, (f1.mo (fun a b z => by unfold pH at z; unfold pC; omega)).tr (f2.mo (fun a b z => by unfold pC; omega))⟩
  obtain ⟨s1, s2, s3, s4, s5, s6, s7⟩ := S1
  refine ⟨by rw [f2.1 _ _ (by omega)]; exact s1, by rw [f2.1 _ _ (by omega)]; exact s2, by rw [f2.1 _ _ (by omega)]; exact s3, by rw [f2.1 _ _ (by omega)]; exact s4, by rw [f2.1 _ _ (by omega)]; exact s5, by rw [f2.1 _ _ (by omega)]; exact s6, fun r hr => ?_⟩
  by_cases hx : r = t
  · subst hx
    rw [e2, zw_sI_s]
    show _ = encC A.1.1 (if r = r then some g else _)
    rw [if_pos rfl]
    rfl
  · rw [e2, zw_sI_n (Or.inr hx), s7 r hr]
    show _ = encC A.1.1 (if r = t then some g else _)
    rw [if_neg hx]
theorem c_X7_put {h : zw_H} {A : zA} {t g : Nat} (W : CW h A) (ht : t < 8) (hg : g < kN A.1.1) : zcI 4 mX7_put [.ref 0, .int (nI t), .int (nI (km A.1.1 g))] h (opC h (oT A 0 (nI t) g)) := by
  rw [oT_0 ht]
  refine zcI_of rfl pn_X7 (fun _ => Nat.le_of_ble_eq_true rfl) rfl (rX7_put_0 (caV (c_X1_remember W.1.1 W.2.2.1 W.2.2.2.1) (fun k1 r1 => ⟨t, rfl, ht, fun k2 e2 => ?_⟩)))
  obtain ⟨W2, F2⟩ := c_regset W ht hg r1.1 r1.2 e2
  refine cr (c_X7_blockCountOf (A := chg A (sReg A.1 t (some g))) W2 hg) (fun x k r => ⟨r.1, W2.fr r.2, F2.tr (r.2.mo (fun a b z => pQ_C z))⟩)
/-- put behind scratch work -/
theorem c_put {h k : zw_H} {A : zA} {t g : Nat} (W : CW k A) (F : Fr pC h k) (ht : t < 8) (hg : g < kN A.1.1) : ∃ q : Int32 → zw_H → Prop, zcI 4 mX7_put [.ref 0, .int (nI t), .int (nI (km A.1.1 g))] k q ∧ ∀ (x : Int32) (h2 : zw_H), q x h2 → opC h (oT A 0 (nI t) g) x h2 := cr (c_X7_put W ht hg) (fun _ _ r => ⟨r.1, r.2.1, F.tr r.2.2⟩)
theorem km_fin : (k6.all fun n => decide (km n (kN n - 1) = 0)) = true := by decide +kernel
theorem m7_finest {h : zw_H} {A : zA} {t : Int32} (W : CW h A) : zcI 5 mX7_finest [.ref 0, .int t] h (opC h (oT A 0 t (kN A.1.1 - 1))) := by
  have hN := kN_le W.1.1.1 W.1.1.2.1
  have h0 : km A.1.1 (kN A.1.1 - 1) = 0 := of_decide_eq_true (List.all_eq_true.mp km_fin _ (k6_mem W.1.1.1 W.1.1.2.1))
  refine zcI_of rfl pn_X7 (fun _ => Nat.le_of_ble_eq_true rfl) rfl (rX7_finest_0 (ca (c_X7_isRegister h t) ⟨fun c => ?_, fun c => ?_⟩))
  · rw [oT_bad (bI_0.mp c)]
    exact W.same _
  · obtain ⟨k, hk, rfl⟩ := bI_yes c
    have := c_put (g := kN A.1.1 - 1) W Fr.rf hk (by omega)
    rw [h0] at this
    exact this
theorem c_X7_allPairs {h : zw_H} {n : Nat} (n1 : 1 ≤ n) (n2 : n ≤ 6) : zpI 0 mX7_allPairs [.int (nI n)] h (nI (kA n)) := by
  refine zcI_of rfl pn_X7 (fun _ => Nat.le_of_ble_eq_true rfl) rfl (rX7_allPairs_0 ?_)
  have e : kA n = pgF n 0 15 := (pgF_km n1 n2 (kN_le n1 n2).2).symm
  rw [e]
  generalize hr : nI (pgF n 0 15) = res
  refine lp_up (P := fun p => zwI 0 mX7_allPairs (fun x h' => x = res ∧ h' = h) 4 [(0, .int (nI n)), (1, .int (nI (pgF n 0 p))), (2, .int (nI p))] [] h) (N := 15) ?_ ?_ 0 (by omega)
  · exact rX7_allPairs_4 ⟨fun _ => ⟨hr, rfl⟩, fun c => absurd (by decide) c⟩
  · intro p hp ih
    obtain ⟨s1, s2, i1, i2, i3⟩ := kIJ p hp
    rw [pgF] at ih
    refine rX7_allPairs_4 ⟨fun c => ?_, fun _ => ⟨p, rfl, hp, fun c => ?_, fun c => ?_⟩⟩
    · have := zle (a := 15) c
      omega
    · rw [s2] at c
      have := zle c
      rw [if_neg (by omega)] at ih
      rw [nI_1]
      exact ih
    · rw [s2] at c
      have := znle c
      rw [if_pos ⟨this, by rw [ks_0 n1 n2, ks_0 n1 n2]⟩] at ih
      rw [zone (by omega), zor, nI_1]
      exact ih
theorem m7_coarsest {h : zw_H} {A : zA} {t : Int32} (W : CW h A) : zcI 5 mX7_coarsest [.ref 0, .int t] h (opC h (oT A 0 t 0)) := by
  have hN := kN_le W.1.1.1 W.1.1.2.1
  refine zcI_of rfl pn_X7 (fun _ => Nat.le_of_ble_eq_true rfl) rfl (rX7_coarsest_0 (ca (c_X7_isRegister h t) ⟨fun c => ?_, fun c => ?_⟩))
  · rw [oT_bad (bI_0.mp c)]
    exact W.same _
  · obtain ⟨k, hk, rfl⟩ := bI_yes c
    rw [W.2.2.1.1]
    exact ca (c_X7_allPairs W.1.1.1 W.1.1.2.1) (c_put W Fr.rf hk hN.2)
/-- faults ahead of a put into t: t first -/
theorem oT_fo {A : zA} {r q t : Int32} {g : Nat} (h : ¬ fo A.1 r q (bI (iR t 8)) = 0) : oT A (wr2 A.1 r q) t g = (fo A.1 r q (bI (iR t 8)), A) := by
  by_cases ht : iR t 8
  · rw [bI_t ht, fo_1] at h ⊢
    exact oT_f ht h
  · rw [bI_f ht, fo_0]
    exact oT_bad ht
theorem m7_copy {h : zw_H} {A : zA} {r t : Int32} (W : CW h A) : zcI 5 mX7_copy [.ref 0, .int r, .int t] h (opC h (oT A (wr1 A.1 r) t (rgt A.1 r))) := by
  rw [← wr2_self]
  refine zcI_of rfl pn_X7 (fun _ => Nat.le_of_ble_eq_true rfl) rfl (rX7_copy_0 (ca (c_X7_isRegister h t) (ca (c_X7_faultOf W) ⟨fun c => ?_, fun c => ?_⟩)))
  · obtain ⟨c1, c2⟩ := fo_ok c
    obtain ⟨k, hk, rfl⟩ := bI_yes c1
    obtain ⟨d1, d2⟩ := wr2_0 c2
    obtain ⟨a, a1, a2, a3, a4, a5⟩ := W.reg d1
    rw [c2]
    refine ⟨a, a2, a1, ?_⟩
    rw [a5]
    exact c_put W Fr.rf hk a4
  · rw [oT_fo c]
    exact W.same _
/-- a set of pairs is a partition's -/
theorem km_is {m n g : Nat} (n1 : 1 ≤ n) (n2 : n ≤ 6) (hg : g < kN n) (hm : m < 32768) (e : ∀ i j, i < j → j < 6 → m.testBit (kp i j) = (decide (j < n) && decide (ks n g i = ks n g j))) : m = km n g := by
  apply Nat.eq_of_testBit_eq
  intro p
  by_cases hp : p < 15
  · obtain ⟨i, _, j, hj, hij, rfl⟩ := kp_onto p hp
    rw [e i j hij hj, km_bit n1 n2 hg hij hj]
  · have h2 := km_lt n1 n2 hg
    have hb : ∀ x, x < 32768 → x.testBit p = false := fun x hx => Nat.testBit_lt_two_pow (Nat.lt_of_lt_of_le hx (by
      have := Nat.pow_le_pow_right (n := 2) (by decide) (show 15 ≤ p by omega)
      omega))
    rw [hb m hm, hb _ h2]
/-- the pairs of the partition with the blocks X -/
theorem km_canon {α : Type} {m n : Nat} {X : Nat → α} (n1 : 1 ≤ n) (n2 : n ≤ 6) (hm : m < 32768) (e : ∀ i j, i < j → j < 6 → (m.testBit (kp i j) = true ↔ (j < n ∧ X i = X j))) : m = km n (canon n X) := by
  obtain ⟨g1, g2⟩ := canon_spec X n1 n2
  refine km_is n1 n2 g1 hm (fun i j hij hj => ?_)
  have h3 := e i j hij hj
  by_cases hx : j < n
  · have h4 := g2 i j (by omega) hx
    rw [decide_eq_true hx, Bool.true_and]
    by_cases hy : X i = X j
    · rw [h3.mpr ⟨hx, hy⟩, decide_eq_true (h4.mp hy)]
    · rw [decide_eq_false (fun z => hy (h4.mpr z))]
      exact Bool.eq_false_iff.mpr (fun z => hy (h3.mp z).2)
  · rw [decide_eq_false hx, Bool.false_and]
    exact Bool.eq_false_iff.mpr (fun z => hx (h3.mp z).1)
theorem m7_meet {h : zw_H} {A : zA} {r s t : Int32} (W : CW h A) : zcI 5 mX7_meet [.ref 0, .int r, .int s, .int t] h (opC h (oT A (wr2 A.1 r s) t (canon A.1.1 (fun e => 6 * ks A.1.1 (rgt A.1 r) e + ks A.1.1 (rgt A.1 s) e)))) := by
  have n1 := W.1.1.1
  have n2 := W.1.1.2.1
  refine zcI_of rfl pn_X7 (fun _ => Nat.le_of_ble_eq_true rfl) rfl (rX7_meet_0 (ca (c_X7_isRegister h t) (ca (c_X7_faultOf W) ⟨fun c => ?_, fun c => ?_⟩)))
  · obtain ⟨c1, c2⟩ := fo_ok c
    obtain ⟨k, hk, rfl⟩ := bI_yes c1
    obtain ⟨d1, d2⟩ := wr2_0 c2
    obtain ⟨a, a1, a2, a3, a4, a5⟩ := W.reg d1
    obtain ⟨b, b1, b2, b3, b4, b5⟩ := W.reg d2
    rw [c2]
    refine ⟨a, a2, a1, b, b2, b1, ?_⟩
    rw [a5, b5, zand]
    have e := km_canon (X := fun e => 6 * ks A.1.1 (rgt A.1 r) e + ks A.1.1 (rgt A.1 s) e) (m := km A.1.1 (rgt A.1 r) &&& km A.1.1 (rgt A.1 s)) n1 n2 (Nat.lt_of_le_of_lt Nat.and_le_left (km_lt n1 n2 a4)) (fun i j hij hj => by
      rw [Nat.testBit_and, km_bit n1 n2 a4 hij hj, km_bit n1 n2 b4 hij hj]
      simp only [Bool.and_eq_true, decide_eq_true_eq]
      constructor
      · rintro ⟨⟨z1, z2⟩, ⟨z3, z4⟩⟩
        exact ⟨z1, by rw [z2, z4]⟩
      · rintro ⟨z1, z2⟩
        have i1 := ks_lt n1 n2 a4 z1
        have i2 := ks_lt n1 n2 b4 z1
        have i3 := ks_lt n1 n2 a4 (show i < A.1.1 by omega)
        have i4 := ks_lt n1 n2 b4 (show i < A.1.1 by omega)
        exact ⟨⟨z1, by omega⟩, ⟨z1, by omega⟩⟩)
    rw [e]
    exact c_put W Fr.rf hk (canon_spec _ n1 n2).1
  · rw [oT_fo c]
    exact W.same _
theorem c_X0_closure {h : zw_H} {n m : Nat} (n1 : 1 ≤ n) (n2 : n ≤ 6) (C : CC h n) (hA : m &&& kA n = m) : zpI 1 mX0_closure [.ref 27, .int (nI m)] h (nI (km n (lub n m))) := by
  have hN := kN_le n1 n2
  have hm15 : m < 32768 := by
    rw [← hA]
    exact Nat.lt_of_le_of_lt Nat.and_le_right (km_lt n1 n2 hN.2)
  obtain ⟨l1, _⟩ := lub_iff (m := m) n1 n2
  have lh := lub_holds n1 n2 hA
  refine zcI_of rfl pn_X0 (fun _ => Nat.le_of_ble_eq_true rfl) rfl (rX0_closure_0 ?_)
  rw [C.2.1]
  have down : ∀ i, i ≤ kN n → lub n m < i → zwI 1 mX0_closure (fun x h' => x = nI (km n (lub n m)) ∧ h' = h) 7 [(0, .ref 27), (1, .int (nI m)), (2, .int (nI i - 1))] [] h := by
    intro i
    induction i with
    | zero => intro _ h; omega
    | succ i ih =>
      intro hi hl
      have hm := km_lt n1 n2 (show i < kN n by omega)
      rw [nI_pred]
      refine rX0_closure_7 ⟨fun c => absurd c (nI_pos (by omega)), fun _ => ⟨i, rfl, by omega, ?_⟩⟩
      rw [(C.2.2 i (by omega)).1]
      refine ca (c_X7_isBelow h (by omega) (by omega)) ⟨fun c => ?_, fun c => ⟨i, rfl, by omega, ?_, rfl⟩⟩
      · have e : nI i + -1 = nI i - 1 := by rw [Int32.sub_eq_add_neg]
        rw [e]
        refine ih (by omega) ?_
        have : lub n m ≠ i := fun z => bI_0.mp c (by rw [← z]; exact lh)
        omega
      · rw [(C.2.2 i (by omega)).1]
        have hle := lub_least n1 n2 (show i < kN n by omega) (bI_yes c)
        have : lub n m = i := by
          apply Classical.byContradiction
          intro z
          have := le_ord n1 n2 l1 (by omega) hle z
          omega
        rw [this]
  exact down (kN n) (Nat.le_refl _) l1
theorem m7_join {h : zw_H} {A : zA} {r s t : Int32} (W : CW h A) : zcI 5 mX7_join [.ref 0, .int r, .int s, .int t] h (opC h (oT A (wr2 A.1 r s) t (lub A.1.1 (km A.1.1 (rgt A.1 r) ||| km A.1.1 (rgt A.1 s))))) := by
  have n1 := W.1.1.1
  have n2 := W.1.1.2.1
  refine zcI_of rfl pn_X7 (fun _ => Nat.le_of_ble_eq_true rfl) rfl (rX7_join_0 (ca (c_X7_isRegister h t) (ca (c_X7_faultOf W) ⟨fun c => ?_, fun c => ?_⟩)))
  · obtain ⟨c1, c2⟩ := fo_ok c
    obtain ⟨k, hk, rfl⟩ := bI_yes c1
    obtain ⟨d1, d2⟩ := wr2_0 c2
    obtain ⟨a, a1, a2, a3, a4, a5⟩ := W.reg d1
    obtain ⟨b, b1, b2, b3, b4, b5⟩ := W.reg d2
    rw [c2]
    refine ⟨a, a2, a1, b, b2, b1, ?_⟩
    rw [a5, b5, zor]
    exact ca (c_X0_closure n1 n2 W.2.2.2.2.2.1 (and_or_sub.mpr ⟨km_kA n1 n2 a4, km_kA n1 n2 b4⟩)) (c_put W Fr.rf hk (lub_iff n1 n2).1)
  · rw [oT_fo c]
    exact W.same _
theorem pbit_kA {n a b : Nat} (n1 : 1 ≤ n) (n2 : n ≤ 6) (ha : a < n) (hb : b < n) : pbit a b &&& kA n = pbit a b := by
  by_cases hab : a = b
  · unfold pbit
    rw [if_pos hab, Nat.zero_and]
  · rw [pbit_kpp hab]
    exact kpp_kA n1 n2 ha hb hab
/-- faults of one register and elements -/
theorem oT_fE {A : zA} {r : Int32} {f : Int32} {g : Nat} (hf : ¬ f = 0) (h : f = -1 ∨ f = wr1 A.1 r) : oT A f r g = (f, A) := by
  refine oT_f' hf ?_
  by_cases hr : iR r 8
  · exact Or.inl hr
  · rcases h with h | h
    · exact Or.inr h
    · rw [wr1_bad hr] at h
      exact Or.inr h
theorem m7_unite {h : zw_H} {A : zA} {r i j : Int32} (W : CW h A) : zcI 5 mX7_unite [.ref 0, .int r, .int i, .int j] h (opC h (oT A (wrE A.1 r i j) r (lub A.1.1 (km A.1.1 (rgt A.1 r) ||| pbit (el A.1.1 i) (el A.1.1 j))))) := by
  have n1 := W.1.1.1
  have n2 := W.1.1.2.1
  refine zcI_of rfl pn_X7 (fun _ => Nat.le_of_ble_eq_true rfl) rfl (rX7_unite_0 (ca (c_X7_isElement W) ⟨fun c => ca (c_X7_faultOf W) ⟨fun c2 => ?_, fun _ => ?_⟩, fun c => ca (c_X7_isElement W) ⟨fun c2 => ca (c_X7_faultOf W) ⟨fun c3 => ?_, fun _ => ?_⟩, fun c2 => ca (c_X7_faultOf W) ⟨fun c3 => ?_, fun c3 => ?_⟩⟩⟩))
  · rw [fo_0] at c2
    exact absurd c2 (by decide)
  · have e := wrE_1 (r := r) (j := j) n2 (bI_0.mp c)
    rw [e, oT_fE (by decide) (Or.inl rfl), fo_0]
    exact W.same _
  · rw [fo_0] at c3
    exact absurd c3 (by decide)
  · have e := wrE_2 (r := r) (i := i) n2 (bI_0.mp c2)
    rw [e, oT_fE (by decide) (Or.inl rfl), fo_0]
    exact W.same _
  · obtain ⟨x, hx, rfl⟩ := bI_yes c
    obtain ⟨y, hy, rfl⟩ := bI_yes c2
    rw [fo_1, wr2_self] at c3
    obtain ⟨a, a1, a2, a3, a4, a5⟩ := W.reg c3
    rw [wrE_nI n2 hx hy, el_nI n2 hx, el_nI n2 hy, c3]
    refine ⟨a, a2, a1, ca (c_X7_pairBit h (by omega) (by omega)) ?_⟩
    rw [a5, zor]
    refine ca (c_X0_closure n1 n2 W.2.2.2.2.2.1 (and_or_sub.mpr ⟨km_kA n1 n2 a4, pbit_kA n1 n2 hx hy⟩)) ?_
    have := c_put (g := lub A.1.1 (km A.1.1 (rgt A.1 r) ||| pbit x y)) W Fr.rf a1 (lub_iff n1 n2).1
    rw [← a2] at this
    exact this
  · obtain ⟨x, hx, rfl⟩ := bI_yes c
    obtain ⟨y, hy, rfl⟩ := bI_yes c2
    rw [fo_1, wr2_self] at c3
    rw [wrE_nI n2 hx hy, oT_fE c3 (Or.inr rfl), fo_1, wr2_self]
    exact W.same _
theorem pwk_t : ∀ e, e < 6 → pwk 63 e 6 < 32768 ∧ ((kP 6).all fun q => (pwk 63 e 6).testBit (kp q.1 q.2) == (decide (q.1 = e) || decide (q.2 = e))) = true := by decide +kernel
theorem big_bit : ∀ p, p < 15 → Nat.testBit 4294967295 p = true := by decide
theorem m7_isolate {h : zw_H} {A : zA} {r i : Int32} (W : CW h A) : zcI 5 mX7_isolate [.ref 0, .int r, .int i] h (opC h (oT A (wrE A.1 r i i) r (canon A.1.1 (fun e => if e = el A.1.1 i then 6 else ks A.1.1 (rgt A.1 r) e)))) := by
  have n1 := W.1.1.1
  have n2 := W.1.1.2.1
  refine zcI_of rfl pn_X7 (fun _ => Nat.le_of_ble_eq_true rfl) rfl (rX7_isolate_0 (ca (c_X7_isElement W) (ca (c_X7_faultOf W) ⟨fun c => ?_, fun c => ?_⟩)))
  · obtain ⟨c1, c2⟩ := fo_ok c
    obtain ⟨x, hx, rfl⟩ := bI_yes c1
    rw [wr2_self] at c2
    obtain ⟨a, a1, a2, a3, a4, a5⟩ := W.reg c2
    rw [wrE_nI n2 hx hx, el_nI n2 hx, c2]
    refine ⟨a, a2, a1, ca (c_X7_pairsWith h (m := 63) (by omega) (show x < 6 by omega)) ?_⟩
    obtain ⟨p1, p2⟩ := pwk_t x (by omega)
    have hm := km_lt n1 n2 a4
    rw [a5, zdel (by omega)]
    have e := km_canon (X := fun e => if e = x then 6 else ks A.1.1 (rgt A.1 r) e) (m := km A.1.1 (rgt A.1 r) &&& (pwk 63 x 6 ^^^ 4294967295)) n1 n2 (Nat.lt_of_le_of_lt Nat.and_le_left hm) (fun i j hij hj => by
      have hk := kp_lt i (by omega) j hj hij
      have q := eq_of_beq (List.all_eq_true.mp p2 (i, j) (kP_mem hij hj))
      rw [Nat.testBit_and, Nat.testBit_xor, km_bit n1 n2 a4 hij hj, q, big_bit _ hk]
      by_cases hx1 : i = x
      · have hx2 : j ≠ x := by omega
        by_cases hjn : j < A.1.1
        · have := ks_lt n1 n2 a4 hjn
          simp [hx1, hx2]
          omega
        · simp [hjn]
      · by_cases hx2 : j = x
        · have := ks_lt n1 n2 a4 (show i < A.1.1 by omega)
          simp [hx1, hx2]
          omega
        · simp [hx1, hx2])
    rw [e]
    have := c_put (g := canon A.1.1 (fun e => if e = x then 6 else ks A.1.1 (rgt A.1 r) e)) W Fr.rf a1 (canon_spec _ n1 n2).1
    rw [← a2] at this
    exact this
  · by_cases hi : iR i A.1.1
    · obtain ⟨x, hx, rfl⟩ := hi
      rw [bI_t ⟨x, hx, rfl⟩, fo_1, wr2_self] at c ⊢
      rw [wrE_nI n2 hx hx, oT_fE c (Or.inr rfl)]
      exact W.same _
    · have e := wrE_1 (r := r) (j := i) n2 hi
      rw [bI_f hi, fo_0, e, oT_fE (by decide) (Or.inl rfl)]
      exact W.same _
