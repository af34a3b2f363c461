theorem c_X2_has {h : zw_H} {s : zS} {k : Int32} (n1 : 1 ≤ s.1) (n2 : s.1 ≤ 6) (C : CR h s) : zpI 0 mX2_has [.ref 37, .int k] h (bI (iR k (cnt s))) := by
  have hN := (kN_le n1 n2).1
  have hc := cnt_le s
  refine zcI_of rfl pn_X2 (fun _ => Nat.le_of_ble_eq_true rfl) rfl (rX2_has_0 ?_)
  rw [C.1]
  exact ⟨fun c => ⟨(bI_f (iR_neg c (by omega))).symm, rfl⟩, fun c => ⟨fun c2 => ⟨(bI_f (iR_big c2 (by omega))).symm, rfl⟩, fun c2 => ⟨(bI_t (iR_of c c2 (by omega))).symm, rfl⟩⟩⟩
theorem c_X2_find {h : zw_H} {s : zS} {g : Nat} (n1 : 1 ≤ s.1) (n2 : s.1 ≤ 6) (C : CR h s) (hg : g < kN s.1) : zpI 0 mX2_find [.ref 37, .int (nI (km s.1 g))] h (ixI s g) := by
  have hN := (kN_le n1 n2).1
  have hc := cnt_le s
  have hm := km_lt n1 n2 hg
  refine zcI_of rfl pn_X2 (fun _ => Nat.le_of_ble_eq_true rfl) rfl (rX2_find_0 ?_)
  refine lp_up (P := fun k => (adm s g = true → k ≤ ix s g) → zwI 0 mX2_find (fun x h' => x = ixI s g ∧ h' = h) 2 [(0, .ref 37), (1, .int (nI (km s.1 g))), (2, .int (nI k))] [] h) (N := cnt s) ?_ ?_ 0 (by omega) (fun _ => Nat.zero_le _)
  · intro inv
    refine rX2_find_2 ⟨fun _ => ⟨?_, rfl⟩, fun c => absurd (by rw [C.1]; exact nI_le (Nat.le_refl _) (by omega)) c⟩
    unfold ixI
    rw [if_neg]
    intro ha
    have h1 := inv ha
    have h2 := (nth_ix hg ha).1
    omega
  · intro k hk ih inv
    obtain ⟨x1, x2, x3⟩ := nth_ok hk
    have hm2 := km_lt n1 n2 x1
    refine rX2_find_2 ⟨fun c => ?_, fun _ => ⟨k, rfl, by omega, fun c => ?_, fun c => ⟨?_, rfl⟩⟩⟩
    · rw [C.1] at c
      have := zle c
      omega
    · rw [(C.2.1 k hk).1] at c
      rw [nI_1]
      refine ih (fun ha => ?_)
      have h1 := inv ha
      have h2 : ix s g ≠ k := fun z => c (by rw [← z, (nth_ix hg ha).2])
      omega
    · rw [(C.2.1 k hk).1] at c
      have e := km_inj n1 n2 x1 hg (zeq c)
      unfold ixI
      rw [← e, if_pos x2, x3]
theorem kt_lt46 : (k6.all fun n => (kT n).all fun t => decide (t < 46656)) = true := by decide +kernel
theorem kt_lt {n g : Nat} (h1 : 1 ≤ n) (h2 : n ≤ 6) (hg : g < kN n) : kt n g < 46656 := of_decide_eq_true (k6_all kt_lt46 h1 h2 hg)
theorem kt_le_iff {n a b : Nat} (h1 : 1 ≤ n) (h2 : n ≤ 6) (ha : a < kN n) (hb : b < kN n) : kt n a ≤ kt n b ↔ a ≤ b := by
  constructor
  · intro h
    rcases Nat.lt_or_ge b a with h3 | h3
    · have := kt_ord h1 h2 ha h3
      omega
    · exact h3
  · intro h
    rcases Nat.lt_or_ge a b with h3 | h3
    · exact Nat.le_of_lt (kt_ord h1 h2 hb h3)
    · rw [show a = b by omega]
      exact Nat.le_refl _
theorem c_X2_firstBehind {h : zw_H} {s : zS} {g : Nat} (n1 : 1 ≤ s.1) (n2 : s.1 ≤ 6) (C : CR h s) (hg : g < kN s.1) : zpI 0 mX2_firstBehind [.ref 37, .int (nI (kt s.1 g))] h (enc1 ((nx s g).map (ix s))) := by
  have hN := (kN_le n1 n2).1
  have hc := cnt_le s
  have hm := kt_lt n1 n2 hg
  refine zcI_of rfl pn_X2 (fun _ => Nat.le_of_ble_eq_true rfl) rfl (rX2_firstBehind_0 ?_)
  refine lp_up (P := fun k => (∀ k', k' < k → nth s k' ≤ g) → zwI 0 mX2_firstBehind (fun x h' => x = enc1 ((nx s g).map (ix s)) ∧ h' = h) 2 [(0, .ref 37), (1, .int (nI (kt s.1 g))), (2, .int (nI k))] [] h) (N := cnt s) ?_ ?_ 0 (by omega) (fun _ h => absurd h (by omega))
  · intro inv
    refine rX2_firstBehind_2 ⟨fun _ => ⟨?_, rfl⟩, fun c => absurd (by rw [C.1]; exact nI_le (Nat.le_refl _) (by omega)) c⟩
    cases hx : nx s g with
    | none => rfl
    | some g' =>
      obtain ⟨y1, y2, y3, _⟩ := fs_some hx
      obtain ⟨z1, z2⟩ := nth_ix (show g' < kN s.1 by omega) y3
      have := inv _ z1
      omega
  · intro k hk ih inv
    obtain ⟨x1, x2, x3⟩ := nth_ok hk
    have hm2 := kt_lt n1 n2 x1
    refine rX2_firstBehind_2 ⟨fun c => ?_, fun _ => ⟨k, rfl, by omega, fun c => ?_, fun c => ⟨?_, rfl⟩⟩⟩
    · rw [C.1] at c
      have := zle c
      omega
    · rw [(C.2.1 k hk).2.1] at c
      have c2 := (kt_le_iff n1 n2 x1 hg).mp (zle c)
      rw [nI_1]
      refine ih (fun k' hk' => ?_)
      by_cases hx : k' = k
      · rw [hx]; exact c2
      · exact inv k' (by omega)
    · rw [(C.2.1 k hk).2.1] at c
      have c2 : g < nth s k := Nat.lt_of_not_le (fun z => by
        have := (kt_le_iff n1 n2 x1 hg).mpr z
        have := znle c
        omega)
      cases hx : nx s g with
      | none =>
        have := fs_none.mp hx (nth s k) (by omega) (by omega)
        rw [x2] at this
        cases this
      | some g' =>
        obtain ⟨y1, y2, y3, y4⟩ := fs_some hx
        have e : g' = nth s k := by
          rcases Nat.lt_trichotomy g' (nth s k) with q | q | q
          · have l := ix_lt q y3
            rw [x3] at l
            have := inv _ l
            rw [(nth_ix (show g' < kN s.1 by omega) y3).2] at this
            omega
          · exact q
          · have := y4 (nth s k) (by omega) q
            rw [x2] at this
            cases this
        show nI k = enc1 (some (ix s g'))
        rw [e, x3]
        rfl
theorem c_X2_lastBefore {h : zw_H} {s : zS} {g : Nat} (n1 : 1 ≤ s.1) (n2 : s.1 ≤ 6) (C : CR h s) (hg : g < kN s.1) : zpI 0 mX2_lastBefore [.ref 37, .int (nI (kt s.1 g))] h (enc1 ((pv s g).map (ix s))) := by
  have hN := (kN_le n1 n2).1
  have hc := cnt_le s
  have hm := kt_lt n1 n2 hg
  refine zcI_of rfl pn_X2 (fun _ => Nat.le_of_ble_eq_true rfl) rfl (rX2_lastBefore_0 ?_)
  rw [C.1]
  have down : ∀ m, m ≤ cnt s → (∀ k', m ≤ k' → k' < cnt s → g ≤ nth s k') → zwI 0 mX2_lastBefore (fun x h' => x = enc1 ((pv s g).map (ix s)) ∧ h' = h) 7 [(0, .ref 37), (1, .int (nI (kt s.1 g))), (2, .int (nI m - 1))] [] h := by
    intro m
    induction m with
    | zero =>
      intro _ inv
      refine rX2_lastBefore_7 ⟨fun _ => ⟨?_, rfl⟩, fun c => absurd (by decide) c⟩
      cases hx : pv s g with
      | none => rfl
      | some g' =>
        obtain ⟨y1, y2, _⟩ := ls_some hx
        obtain ⟨z1, z2⟩ := nth_ix (show g' < kN s.1 by omega) y2
        have := inv _ (Nat.zero_le _) z1
        omega
    | succ m ih =>
      intro hm1 inv
      have hk : m < cnt s := by omega
      obtain ⟨x1, x2, x3⟩ := nth_ok hk
      have hm2 := kt_lt n1 n2 x1
      rw [nI_pred]
      refine rX2_lastBefore_7 ⟨fun c => absurd c (nI_pos (by omega)), fun _ => ⟨m, rfl, by omega, fun c => ?_, fun c => ⟨?_, rfl⟩⟩⟩
      · rw [(C.2.1 m hk).2.1] at c
        have c2 := (kt_le_iff n1 n2 hg x1).mp (zle c)
        have e : nI m + -1 = nI m - 1 := by
          rw [Int32.sub_eq_add_neg]
        rw [e]
        refine ih (by omega) (fun k' h1 h2 => ?_)
        by_cases hx : k' = m
        · rw [hx]; exact c2
        · exact inv k' (by omega) h2
      · rw [(C.2.1 m hk).2.1] at c
        have c2 : nth s m < g := Nat.lt_of_not_le (fun z => by
          have := (kt_le_iff n1 n2 hg x1).mpr z
          have := znle c
          omega)
        cases hx : pv s g with
        | none =>
          have := ls_none.mp hx (nth s m) c2
          rw [x2] at this
          cases this
        | some g' =>
          obtain ⟨y1, y2, y4⟩ := ls_some hx
          have e : g' = nth s m := by
            rcases Nat.lt_trichotomy g' (nth s m) with q | q | q
            · have := y4 (nth s m) q c2
              rw [x2] at this
              cases this
            · exact q
            · have l := ix_lt q x2
              rw [x3] at l
              obtain ⟨w1, w2⟩ := nth_ix (show g' < kN s.1 by omega) y2
              have := inv _ l w1
              omega
          show nI m = enc1 (some (ix s g'))
          rw [e, x3]
          rfl
  exact down (cnt s) (Nat.le_refl _) (fun _ h1 h2 => absurd h1 (by omega))
/-- the pairs that are together are pairs of elements, now and before -/
def AW (A : zA) : Prop := A.1.2.2.2.2.1 &&& kA A.1.1 = A.1.2.2.2.2.1 ∧ ∀ i, i < A.2.1 → (A.2.2.1 i).2.2.2.2.1 &&& kA (A.2.2.1 i).1 = (A.2.2.1 i).2.2.2.2.1
/-- the text of the class -/
def CX (h : zw_H) (k : Nat) (x : Nat → Nat) : Prop := h.1 25 1 = nI k ∧ ∀ i, i < k → h.1 26 i = nI (x i)
theorem CX.fr {P : Nat → Nat → Prop} {h h' : zw_H} {k : Nat} {x : Nat → Nat} (T : CX h k x) (f : Fr P h h') (p1 : ∀ b, ¬ P 25 b) (p2 : ∀ b, ¬ P 26 b) : CX h' k x := ⟨by rw [f.1 _ _ (p1 _)]; exact T.1, fun i hi => by rw [f.1 _ _ (p2 _)]; exact T.2 i hi⟩
/-- the class's world -/
def CW (h : zw_H) (A : zA) : Prop := AV A ∧ AW A ∧ SO h 1 2 A.1 ∧ CH h A.2.1 A.2.2.1 ∧ CX h A.2.2.2.1 A.2.2.2.2 ∧ CC h A.1.1 ∧ CR h A.1
/-- the class's scratch rows -/
def pQ (a b : Nat) : Prop := 42 ≤ a ∧ a ≤ 55 ∨ a = 37 ∧ b = 6
def pC (a _b : Nat) : Prop := a < 56
theorem pQ_C {a b : Nat} (z : pQ a b) : pC a b := by
  unfold pQ at z
  unfold pC
  omega
theorem CW.fr {h h' : zw_H} {A : zA} (W : CW h A) (f : Fr pQ h h') : CW h' A := by
  obtain ⟨w1, w2, w3, w4, w5, w6, w7⟩ := W
  exact ⟨w1, w2, w3.fr f (fun _ => by unfold pQ; omega) (fun _ => by unfold pQ; omega), w4.fr f (fun _ => by unfold pQ; omega) (fun _ _ _ _ => by unfold pQ; omega), w5.fr f (fun _ => by unfold pQ; omega) (fun _ => by unfold pQ; omega), w6.fr f (fun _ => by unfold pQ; omega) (fun _ _ _ _ => by unfold pQ; omega), w7.fr f (by unfold pQ; omega) (fun _ _ _ _ => by unfold pQ; omega)⟩
def opC (h : zw_H) (sp : Int32 × zA) : Int32 → zw_H → Prop := fun x h' => x = sp.1 ∧ CW h' sp.2 ∧ Fr pC h h'
def opCL (h : zw_H) (sp : Int64 × zA) : Int64 → zw_H → Prop := fun x h' => x = sp.1 ∧ CW h' sp.2 ∧ Fr pC h h'
theorem CW.same {h : zw_H} {A : zA} (W : CW h A) (x : Int32) : opC h (x, A) x h := ⟨rfl, W, Fr.rf⟩
theorem CW.sameL {h : zw_H} {A : zA} (W : CW h A) (x : Int64) : opCL h (x, A) x h := ⟨rfl, W, Fr.rf⟩
theorem AW.chg {A : zA} {s' : zS} (W : AW A) (hs : s'.2.2.2.2.1 &&& kA s'.1 = s'.2.2.2.2.1) (hm : A.2.1 ≤ 10) : AW (chg A s') := by
  refine ⟨hs, fun i hi => ?_⟩
  match i with
  | 0 => exact W.1
  | i + 1 =>
    refine W.2 i ?_
    have : i + 1 < mpush A.2.1 := hi
    unfold mpush at this
    split at this <;> omega
/-- after a change of the restrictions all that is derived is brought up to date -/
theorem c_X7_refresh {h : zw_H} {s : zS} (V : SV s) (hT : s.2.2.2.2.1 &&& kA s.1 = s.2.2.2.2.1) (S : SO h 1 2 s) (old : h.1 27 7 = nI s.1 → CC h s.1) : zcV 5 mX7_refresh [.ref 0] h (fun h' => CC h' s.1 ∧ CR h' s ∧ Fr (fun a b => pF a b ∨ pRo a b) h h') := by
  refine zcV_of rfl pn_X7 (fun _ => Nat.le_of_ble_eq_true rfl) rfl (rX7_refresh_0 ?_)
  rw [S.1]
  refine caV (c_X0_fill V.1 V.2.1 old) (fun k1 r1 => ?_)
  have S1 : SO k1 1 2 s := S.fr r1.2 (fun _ => by unfold pF; omega) (fun _ => by unfold pF; omega)
  refine caV (c_X2_select V hT S1 r1.1) (fun k2 r2 => ?_)
  exact ⟨r1.1.fr r2.2 (fun _ => by unfold pRo; omega) (fun _ _ _ _ => by unfold pRo; omega), r2.1, (r1.2.mo (fun a b z => Or.inl z)).tr (r2.2.mo (fun a b z => Or.inr z))⟩
theorem cC_old {h : zw_H} {n n' : Nat} (h2 : n ≤ 6) (h3 : n' ≤ 6) (C : CC h n) (e : h.1 27 7 = nI n') : CC h n' := by
  rw [C.1] at e
  rw [← zeq e]
  exact C
/-- the state is changed: what a change of the restrictions comes to -/
theorem c_change {h k1 k2 k3 : zw_H} {A : zA} {s' : zS} (W : CW h A) (V' : SV s') (hT : s'.2.2.2.2.1 &&& kA s'.1 = s'.2.2.2.2.1) (C1 : CH k1 (mpush A.2.1) (hpush A.1 A.2.2.1)) (f1 : Fr pH h k1) (S2 : SO k2 1 2 s') (f2 : Fr (fun a _ => a = 1 ∨ a = 2) k1 k2) (r3 : CC k3 s'.1 ∧ CR k3 s' ∧ Fr (fun a b => pF a b ∨ pRo a b) k2 k3) : CW k3 (chg A s') ∧ Fr pC h k3 := by
  obtain ⟨w1, w2, w3, w4, w5, w6, w7⟩ := W
  obtain ⟨c3, d3, f3⟩ := r3
  have hm := w4.choose_spec.2.2.2.1
  refine ⟨⟨w1.chg V' hm, w2.chg hT hm, S2.fr f3 (fun _ => by unfold pF pRo; omega) (fun _ => by unfold pF pRo; omega), (C1.fr f2 (fun _ => by omega) (fun _ _ _ _ => by omega)).fr f3 (fun _ => by unfold pF pRo; omega) (fun _ _ _ _ => by unfold pF pRo; omega), ?_, c3, d3⟩, ?_⟩
  · exact ((w5.fr f1 (fun _ => by unfold pH; omega) (fun _ => by unfold pH; omega)).fr f2 (fun _ => by omega) (fun _ => by omega)).fr f3 (fun _ => by unfold pF pRo; omega) (fun _ => by unfold pF pRo; omega)
  · exact ((f1.mo (fun a b z => by unfold pH at z; unfold pC; omega)).tr (f2.mo (fun a b z => by unfold pC; omega))).tr (f3.mo (fun a b z => by unfold pF pRo at z; unfold pC; omega))
theorem c_change_old {h k1 k2 : zw_H} {A : zA} {n' : Nat} (W : CW h A) (h3 : n' ≤ 6) (f1 : Fr pH h k1) (f2 : Fr (fun a _ => a = 1 ∨ a = 2) k1 k2) : k2.1 27 7 = nI n' → CC k2 n' := by
  have C2 : CC k2 A.1.1 := (W.2.2.2.2.2.1.fr f1 (fun _ => by unfold pH; omega) (fun _ _ _ _ => by unfold pH; omega)).fr f2 (fun _ => by omega) (fun _ _ _ _ => by omega)
  exact cC_old W.1.1.2.1 h3 C2
theorem m7_setSize {h : zw_H} {A : zA} {x : Int32} (W : CW h A) : zcI 6 mX7_setSize [.ref 0, .int x] h (opC h (oSize A x)) := by
  unfold oSize
  have bad : ¬ (¬ x < 1 ∧ ¬ 6 < x) → opC h (match r16 x with | none => (-1, A) | some n => (nI A.1.1, chg A (s0 n))) (-1) h := fun z => by
    rw [r16_none.mpr z]
    exact W.same _
  refine zcI_of rfl pn_X7 (fun _ => Nat.le_of_ble_eq_true rfl) rfl (rX7_setSize_0 ⟨fun c => bad (fun z => z.1 c), fun c => ⟨fun c2 => ?_, fun c2 => bad (fun z => c2 ?_)⟩⟩)
  · have hin : ¬ x < 1 ∧ ¬ 6 < x := ⟨c, fun z => by
      rw [Int32.lt_iff_toInt_lt] at z
      rw [Int32.le_iff_toInt_le] at c2
      omega⟩
    obtain ⟨n, hn⟩ := r16_yes hin
    obtain ⟨n1, n2, rfl⟩ := r16_some hn
    rw [hn]
    dsimp only
    refine caV (c_X1_remember W.1.1 W.2.2.1 W.2.2.2.1) (fun k1 r1 => caV (c_X5_reset) (fun k2 r2 => ?_))
    have T0 : (s0 n).2.2.2.2.1 &&& kA (s0 n).1 = (s0 n).2.2.2.2.1 := Nat.zero_and _
    refine caV (c_X7_refresh (s := s0 n) (SV.s0 n1 n2) T0 r2.1 (c_change_old W n2 r1.2 r2.2)) (fun k3 r3 => ?_)
    exact ⟨W.2.2.1.1, c_change W (SV.s0 n1 n2) T0 r1.1 r1.2 r2.1 r2.2 r3⟩
  · have := z.2
    rw [Int32.lt_iff_toInt_lt] at this
    rw [Int32.le_iff_toInt_le]
    omega
