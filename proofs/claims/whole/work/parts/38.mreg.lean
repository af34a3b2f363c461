def kpp (a b : Nat) : Nat := if a < b then kp a b else kp b a
theorem pbit_kpp {a b : Nat} (h : a ≠ b) : pbit a b = 2 ^ kpp a b := by
  unfold pbit kpp
  rw [if_neg h]
  split <;> rfl
theorem kpp_lt {a b : Nat} (ha : a < 6) (hb : b < 6) (h : a ≠ b) : kpp a b < 15 := by
  unfold kpp
  split
  · exact kp_lt a ha b hb (by omega)
  · exact kp_lt b hb a ha (by omega)
def oAp (A : zA) (x y : Int32) (on : Bool) : Int32 × zA := match ri A.1.1 x, ri A.1.1 y with
  | some a, some b => if a = b then (-1, A) else (nI (if A.1.2.2.2.1.testBit (kpp a b) then 1 else 0), chg A (sAp A.1 (sBit A.1.2.2.2.1 (kpp a b) on)))
  | _, _ => (-1, A)
def oTg (A : zA) (x y : Int32) (on : Bool) : Int32 × zA := match ri A.1.1 x, ri A.1.1 y with
  | some a, some b => if a = b then (-1, A) else (nI (if A.1.2.2.2.2.1.testBit (kpp a b) then 1 else 0), chg A (sTg A.1 (sBit A.1.2.2.2.2.1 (kpp a b) on)))
  | _, _ => (-1, A)
theorem m_apart {h : zw_H} {A : zA} {x y v : Int32} {on : Bool} (W : RW h A) (hv : v = 0 ↔ on = false) : zcI 7 mX8_apart [.ref 56, .int x, .int y, .int v] h (opR h (oAp A x y on)) := by
  obtain ⟨w1, w2, w3, w4, w5, w6⟩ := id W
  obtain ⟨v1, v2, v3, v4, v5, v6, v7, v8⟩ := w1.1
  refine zcI_of rfl pn_X8 (fun _ => Nat.le_of_ble_eq_true rfl) rfl (rX8_apart_0 (ca (c_X8_isPair w3.1 v1 v2) ⟨fun c => ?_, fun c => ?_⟩))
  · have hc := bI_0.mp c
    have e : oAp A x y on = (-1, A) := by
      unfold oAp
      cases hx : ri A.1.1 x with
      | none => rfl
      | some a =>
        cases hy : ri A.1.1 y with
        | none => rfl
        | some b =>
          obtain ⟨a1, rfl⟩ := ri_some hx
          obtain ⟨b1, rfl⟩ := ri_some hy
          have : a = b := Classical.byContradiction (fun z => hc ⟨⟨a, a1, rfl⟩, ⟨b, b1, rfl⟩, fun z2 => z (zeq z2)⟩)
          dsimp only
          rw [if_pos this]
    rw [e]
    exact W.same _
  · have hc : iR x A.1.1 ∧ iR y A.1.1 ∧ x ≠ y := Classical.byContradiction (fun z => c (bI_f z))
    obtain ⟨⟨a, a1, rfl⟩, ⟨b, b1, rfl⟩, hne⟩ := hc
    have hab : a ≠ b := fun z => hne (by rw [z])
    have hk := kpp_lt (show a < 6 by omega) (show b < 6 by omega) hab
    refine ca (c_X8_bitOf h (by omega) (by omega) hab) ?_
    unfold oAp
    rw [ri_nI a1 (by omega), ri_nI b1 (by omega), pbit_kpp hab]
    dsimp only
    rw [if_neg hab]
    exact cr (c_X8_setsBit (s' := sAp A.1 (sBit A.1.2.2.2.1 (kpp a b) on)) (w := 3) W (by omega) (by omega) ⟨v1, v2, v3, v4, sBit_lt (m := 15) v5 (by omega), v6, v7, v8⟩ rfl rfl (by omega) (by omega) hv (pgv_14 rfl rfl rfl rfl rfl rfl (fun _ => rfl))) (fun x h2 r => r)
theorem m_together {h : zw_H} {A : zA} {x y v : Int32} {on : Bool} (W : RW h A) (hv : v = 0 ↔ on = false) : zcI 7 mX8_together [.ref 56, .int x, .int y, .int v] h (opR h (oTg A x y on)) := by
  obtain ⟨w1, w2, w3, w4, w5, w6⟩ := id W
  obtain ⟨v1, v2, v3, v4, v5, v6, v7, v8⟩ := w1.1
  refine zcI_of rfl pn_X8 (fun _ => Nat.le_of_ble_eq_true rfl) rfl (rX8_together_0 (ca (c_X8_isPair w3.1 v1 v2) ⟨fun c => ?_, fun c => ?_⟩))
  · have hc := bI_0.mp c
    have e : oTg A x y on = (-1, A) := by
      unfold oTg
      cases hx : ri A.1.1 x with
      | none => rfl
      | some a =>
        cases hy : ri A.1.1 y with
        | none => rfl
        | some b =>
          obtain ⟨a1, rfl⟩ := ri_some hx
          obtain ⟨b1, rfl⟩ := ri_some hy
          have : a = b := Classical.byContradiction (fun z => hc ⟨⟨a, a1, rfl⟩, ⟨b, b1, rfl⟩, fun z2 => z (zeq z2)⟩)
          dsimp only
          rw [if_pos this]
    rw [e]
    exact W.same _
  · have hc : iR x A.1.1 ∧ iR y A.1.1 ∧ x ≠ y := Classical.byContradiction (fun z => c (bI_f z))
    obtain ⟨⟨a, a1, rfl⟩, ⟨b, b1, rfl⟩, hne⟩ := hc
    have hab : a ≠ b := fun z => hne (by rw [z])
    have hk := kpp_lt (show a < 6 by omega) (show b < 6 by omega) hab
    refine ca (c_X8_bitOf h (by omega) (by omega) hab) ?_
    unfold oTg
    rw [ri_nI a1 (by omega), ri_nI b1 (by omega), pbit_kpp hab]
    dsimp only
    rw [if_neg hab]
    exact cr (c_X8_setsBit (s' := sTg A.1 (sBit A.1.2.2.2.2.1 (kpp a b) on)) (w := 4) W (by omega) (by omega) ⟨v1, v2, v3, v4, v5, sBit_lt (m := 15) v6 (by omega), v7, v8⟩ rfl rfl (by omega) (by omega) hv (pgv_14 rfl rfl rfl rfl rfl rfl (fun _ => rfl))) (fun x h2 r => r)
def oNc (A : zA) (on : Bool) : Int32 × zA := (nI A.1.2.2.2.2.2.1, chg A (sNc A.1 (if on = true then 1 else 0)))
theorem m_noncrossing {h : zw_H} {A : zA} {v : Int32} {on : Bool} (W : RW h A) (hv : v = 0 ↔ on = false) : zcI 6 mX8_noncrossing [.ref 56, .int v] h (opR h (oNc A on)) := by
  obtain ⟨w1, w2, w3, w4, w5, w6⟩ := id W
  obtain ⟨v1, v2, v3, v4, v5, v6, v7, v8⟩ := w1.1
  refine zcI_of rfl pn_X8 (fun _ => Nat.le_of_ble_eq_true rfl) rfl (rX8_noncrossing_0 ⟨fun c => ?_, fun c => ?_⟩)
  · have hon : on = false := hv.mp c
    subst hon
    exact cr (c_X8_sets (s' := sNc A.1 0) (w := 5) W (by omega) (by omega) ⟨v1, v2, v3, v4, v5, v6, show 0 ≤ 1 by omega, v8⟩ rfl (pgv_14 rfl rfl rfl rfl rfl rfl (fun _ => rfl))) (fun x h2 r => r)
  · have hon : on = true := by
      cases on with
      | true => rfl
      | false => exact absurd (hv.mpr rfl) c
    subst hon
    exact cr (c_X8_sets (s' := sNc A.1 1) (w := 5) W (by omega) (by omega) ⟨v1, v2, v3, v4, v5, v6, show 1 ≤ 1 by omega, v8⟩ rfl (pgv_14 rfl rfl rfl rfl rfl rfl (fun _ => rfl))) (fun x h2 r => r)
/-- type, clear -/
def tx (A : zA) (k : Nat) (x : Nat → Nat) : zA := (A.1, A.2.1, A.2.2.1, k, x)
def oType (A : zA) (c : Int32) : Int32 × zA := match ri 128 c with
  | none => (-1, A)
  | some v => if A.2.2.2.1 = 20 then (-4, A) else (nI (A.2.2.2.1 + 1), tx A (A.2.2.2.1 + 1) (fun i => if i = A.2.2.2.1 then v else A.2.2.2.2 i))
def oClear (A : zA) : Int32 × zA := (nI A.2.2.2.1, tx A 0 A.2.2.2.2)
theorem iR_in {x : Int32} {n : Nat} (h1 : 1 ≤ n) (hn : n < 2147483648) {m : Int32} (hm : m = nI (n - 1)) : iR x n ↔ ¬ x < 0 ∧ ¬ m < x := by
  subst hm
  constructor
  · rintro ⟨k, hk, rfl⟩
    refine ⟨nI_pos (by omega), fun c => ?_⟩
    have := zlt c
    omega
  · rintro ⟨a, b⟩
    refine iR_of a (fun c => b ?_) hn
    rw [Int32.lt_iff_toInt_lt, nI_toInt (by omega)]
    rw [Int32.le_iff_toInt_le, nI_toInt (by omega)] at c
    omega
def pX (a b : Nat) : Prop := a = 58 ∨ a = 56 ∧ b = 3
theorem RW.tx {h h' : zw_H} {A : zA} {k : Nat} {x : Nat → Nat} (W : RW h A) (f : Fr pX h h') (hk : k ≤ 20) (hx : ∀ i, i < k → x i < 128) (X : RX h' k x) : RW h' (tx A k x) := by
  obtain ⟨w1, w2, w3, w4, w5, w6⟩ := W
  exact ⟨⟨w1.1, w1.2.1, hk, hx⟩, w2.fr f (by unfold pX; omega) (by unfold pX; omega) (fun _ => by unfold pX; omega) (fun _ => by unfold pX; omega), w3.fr f (fun _ => by unfold pX; omega), w4.fr f (fun _ => by unfold pX; omega) (by unfold pX; omega), w5.fr f (by unfold pX; omega) (fun _ _ => by unfold pX; omega), X⟩
theorem m_type {h : zw_H} {A : zA} {c : Int32} (W : RW h A) : zcI 1 mX8_type [.ref 56, .int c] h (opR h (oType A c)) := by
  obtain ⟨w1, w2, w3, w4, w5, w6⟩ := id W
  obtain ⟨x1, x2⟩ := w6
  have hk := w1.2.2.1
  have hiR := iR_in (x := c) (n := 128) (m := 127) (by omega) (by omega) rfl
  unfold oType
  refine zcI_of rfl pn_X8 (fun _ => Nat.le_of_ble_eq_true rfl) rfl (rX8_type_0 (ca (c_X8_in h _ _ _) ⟨fun d => ⟨fun d2 => ?_, fun d2 => ?_⟩, fun d => ?_⟩))
  · obtain ⟨v, hv⟩ := (ri_iR (by omega)).mp (hiR.mpr (Classical.byContradiction (fun z => d (bI_f z))))
    obtain ⟨v1, rfl⟩ := ri_some hv
    rw [hv]
    dsimp only
    have k20 : A.2.2.2.1 ≠ 20 := by
      intro z
      rw [x1, z] at d2
      exact d2 rfl
    rw [if_neg k20]
    refine ⟨A.2.2.2.1, x1, by omega, fun k3 e3 k4 e4 => ?_⟩
    have y : k3.1 56 3 = nI A.2.2.2.1 := by rw [e3, zw_sI_n (Or.inl (by decide))]; exact x1
    have z : k4.1 56 3 = nI (A.2.2.2.1 + 1) := by rw [e4, zw_sI_s, y, nI_1]
    refine ⟨z, W.tx ((Fr.rf.sI e3 (Or.inl rfl)).sI e4 (Or.inr ⟨rfl, rfl⟩)) (by omega) (fun i hi => ?_) ⟨z, fun i hi => ?_⟩, (Fr.rf.sI e3 (by unfold pR; omega)).sI e4 (by unfold pR; omega)⟩
    · by_cases hx : i = A.2.2.2.1
      · rw [if_pos hx]; exact v1
      · rw [if_neg hx]; exact w1.2.2.2 i (by omega)
    · rw [e4, zw_sI_n (Or.inl (by decide))]
      dsimp only
      by_cases hx : i = A.2.2.2.1
      · rw [if_pos hx, hx, e3, zw_sI_s]
      · rw [if_neg hx, e3, zw_sI_n (Or.inr hx)]
        exact x2 i (by omega)
  · obtain ⟨v, hv⟩ := (ri_iR (by omega)).mp (hiR.mpr (Classical.byContradiction (fun z => d (bI_f z))))
    rw [hv]
    dsimp only
    rw [x1] at d2
    rw [if_pos (zeq (b := 20) d2)]
    exact W.same _
  · rw [(ri_none (by omega)).mpr (fun z => bI_0.mp d (hiR.mp z))]
    exact W.same _
theorem m_clear {h : zw_H} {A : zA} (W : RW h A) : zcI 0 mX8_clear [.ref 56] h (opR h (oClear A)) := by
  obtain ⟨w1, w2, w3, w4, w5, w6⟩ := id W
  refine zcI_of rfl pn_X8 (fun _ => Nat.le_of_ble_eq_true rfl) rfl (rX8_clear_0 (fun k1 e1 => ⟨w6.1, ?_, Fr.rf.sI e1 (by unfold pR; omega)⟩))
  exact W.tx (Fr.rf.sI e1 (Or.inr ⟨rfl, rfl⟩)) (by omega) (fun _ h => absurd h (by omega)) ⟨by rw [e1, zw_sI_s]; rfl, fun _ h => absurd h (by omega)⟩
/-- g is put into the register t, unless there is a fault f -/
def oT (A : zA) (f t : Int32) (g : Nat) : Int32 × zA := match ri 8 t with
  | none => (-1, A)
  | some k => if f = 0 then (nI (kB A.1.1 g), chg A (sReg A.1 k (some g))) else (f, A)
theorem pS_R {a b : Nat} (z : pS a b) : pR a b := by
  unfold pS at z
  unfold pR
  omega
theorem oT_0 {A : zA} {t g : Nat} (ht : t < 8) : oT A 0 (nI t) g = (nI (kB A.1.1 g), chg A (sReg A.1 t (some g))) := by
  unfold oT
  rw [ri_nI ht (by omega)]
  dsimp only
  rw [if_pos rfl]
theorem m_puts {h h1 : zw_H} {A : zA} {t g : Nat} (W : RW h1 A) (F : Fr pR h h1) (ht : t < 8) (hg : g < kN A.1.1) : ∃ q : Int32 → zw_H → Prop, zcI 1 mX8_puts [.ref 56, .int (nI t), .int (nI g)] h1 q ∧ ∀ (x : Int32) (h2 : zw_H), q x h2 → opR h (oT A 0 (nI t) g) x h2 := by
  rw [oT_0 ht]
  exact cr (c_X8_puts W ht hg) (fun x h2 r => ⟨r.1, r.2.1, F.tr r.2.2⟩)
theorem oT_bad {A : zA} {f t : Int32} {g : Nat} (h : ¬ iR t 8) : oT A f t g = (-1, A) := by
  unfold oT
  rw [(ri_none (by omega)).mpr h]
theorem oT_f {A : zA} {f t : Int32} {g : Nat} (h : iR t 8) (hf : f ≠ 0) : oT A f t g = (f, A) := by
  obtain ⟨k, hk⟩ := (ri_iR (by omega)).mp h
  unfold oT
  rw [hk]
  dsimp only
  rw [if_neg hf]
theorem bI_yes {p : Prop} (h : ¬ bI p = 0) : p := Classical.byContradiction (fun z => h (bI_f z))
theorem m_finest {h : zw_H} {A : zA} {t : Int32} (W : RW h A) : zcI 2 mX8_finest [.ref 56, .int t] h (opR h (oT A 0 t (kN A.1.1 - 1))) := by
  have hN := kN_le W.2.1.1 W.2.1.2.1
  refine zcI_of rfl pn_X8 (fun _ => Nat.le_of_ble_eq_true rfl) rfl (rX8_finest_0 (ca (c_X8_isRegister h t) ⟨fun c => ?_, fun c => ?_⟩))
  · rw [oT_bad (bI_0.mp c)]
    exact W.same _
  · obtain ⟨k, hk, rfl⟩ := bI_yes c
    rw [W.2.1.2.2.2.1, show kN A.1.1 = (kN A.1.1 - 1) + 1 by omega, nI_pred]
    exact m_puts W Fr.rf hk (by omega)
theorem m_coarsest {h : zw_H} {A : zA} {t : Int32} (W : RW h A) : zcI 2 mX8_coarsest [.ref 56, .int t] h (opR h (oT A 0 t 0)) := by
  have hN := kN_le W.2.1.1 W.2.1.2.1
  refine zcI_of rfl pn_X8 (fun _ => Nat.le_of_ble_eq_true rfl) rfl (rX8_coarsest_0 (ca (c_X8_isRegister h t) ⟨fun c => ?_, fun c => ?_⟩))
  · rw [oT_bad (bI_0.mp c)]
    exact W.same _
  · obtain ⟨k, hk, rfl⟩ := bI_yes c
    exact m_puts (g := 0) W Fr.rf hk (by omega)
theorem m_copy {h : zw_H} {A : zA} {r t : Int32} (W : RW h A) : zcI 3 mX8_copy [.ref 56, .int r, .int t] h (opR h (oT A (wr1 A.1 r) t (rgt A.1 r))) := by
  refine zcI_of rfl pn_X8 (fun _ => Nat.le_of_ble_eq_true rfl) rfl (rX8_copy_0 (ca (c_X8_isRegister h t) ⟨fun c => ca (c_X8_wrong W.1.1 W.2.2.1) ⟨fun c2 => ?_, fun c2 => ?_⟩, fun c => ?_⟩))
  · obtain ⟨k, hk, rfl⟩ := bI_yes c
    obtain ⟨a, a1, a2, a3, a4⟩ := rgt_ok W.1.1 c2
    rw [c2]
    exact ca (c_X8_heldR W.1.1 W.2.2.1 c2) (m_puts W Fr.rf hk a4)
  · rw [oT_f (bI_yes c) c2]
    exact W.same _
  · rw [oT_bad (bI_0.mp c)]
    exact W.same _
theorem RW.now {h h' : zw_H} {A : zA} (W : RW h A) (f : Fr (fun a _ => a = 62) h h') : RW h' A := W.fr (f.mo (fun a b z => Or.inl z))
/-- the row now, as blocks W, becomes a number and comes into a register -/
theorem m_numputs {α : Type} {h h1 : zw_H} {A : zA} {t : Nat} (X : Nat → α) (W : RW h1 A) (F : Fr pR h h1) (ht : t < 8) (hx : ∀ i j, j < i → i < A.1.1 → (h1.1 62 i = h1.1 62 j ↔ X i = X j)) : ∃ q : Int32 → zw_H → Prop, zcI 1 mX8_numberOf [.ref 56] h1 q ∧ ∀ (x : Int32) (h2 : zw_H), q x h2 → ∃ q2 : Int32 → zw_H → Prop, zcI 1 mX8_puts [.ref 56, .int (nI t), .int x] h2 q2 ∧ ∀ (x2 : Int32) (h3 : zw_H), q2 x2 h3 → opR h (oT A 0 (nI t) (canon A.1.1 X)) x2 h3 := by
  obtain ⟨e1, e2⟩ := canon_spec X W.2.1.1 W.2.1.2.1
  exact ca (c_X8_numberOf W.2.1 e1 (fun i j hj hi => (hx i j hj hi).trans (e2 i j hi (by omega)))) (m_puts W F ht e1)
theorem m_meet {h : zw_H} {A : zA} {r s t : Int32} (W : RW h A) : zcI 3 mX8_meet [.ref 56, .int r, .int s, .int t] h (opR h (oT A (wr2 A.1 r s) t (canon A.1.1 (fun e => 6 * ks A.1.1 (rgt A.1 r) e + ks A.1.1 (rgt A.1 s) e)))) := by
  refine zcI_of rfl pn_X8 (fun _ => Nat.le_of_ble_eq_true rfl) rfl (rX8_meet_0 (ca (c_X8_isRegister h t) ⟨fun c => ca (c_X8_wrongOf W.1.1 W.2.2.1) ⟨fun c2 => ?_, fun c2 => ?_⟩, fun c => ?_⟩))
  · obtain ⟨k, hk, rfl⟩ := bI_yes c
    obtain ⟨d1, d2⟩ := wr2_0 c2
    obtain ⟨a, a1, a2, a3, a4⟩ := rgt_ok W.1.1 d1
    obtain ⟨b, b1, b2, b3, b4⟩ := rgt_ok W.1.1 d2
    have n1 := W.2.1.1
    have n2 := W.2.1.2.1
    rw [c2]
    generalize hX : (fun e => 6 * ks A.1.1 (rgt A.1 r) e + ks A.1.1 (rgt A.1 s) e) = X
    have hX' : ∀ e, X e = 6 * ks A.1.1 (rgt A.1 r) e + ks A.1.1 (rgt A.1 s) e := fun e => by rw [← hX]
    refine lp_up (P := fun e => ∀ k1, Fr (fun a _ => a = 62) h k1 → (∀ e', e' < e → k1.1 62 e' = nI (X e')) → zwI 3 mX8_meet (opR h (oT A 0 (nI k) (canon A.1.1 X))) 28 [(0, .ref 56), (1, .int r), (2, .int s), (3, .int (nI k)), (5, .int (nI e))] [] k1) (N := A.1.1) ?_ ?_ 0 (by omega) h Fr.rf (fun _ h => absurd h (by omega))
    · intro k1 fr inv
      have W1 := W.now fr
      refine rX8_meet_28 ⟨fun _ => m_numputs X W1 (fr.mo (fun a b z => by unfold pR; omega)) hk (fun i j hj hi => ?_), fun c => absurd (by rw [W1.2.1.2.2.1]; exact nI_le (Nat.le_refl _) (by omega)) c⟩
      have i1 := ks_lt n1 n2 a4 hi
      have i2 := ks_lt n1 n2 b4 hi
      have i3 := ks_lt n1 n2 a4 (show j < A.1.1 by omega)
      have i4 := ks_lt n1 n2 b4 (show j < A.1.1 by omega)
      have b1 := hX' i
      have b2 := hX' j
      rw [inv i hi, inv j (by omega), nI_eq (by omega) (by omega)]
    · intro e he ih k1 fr inv
      have W1 := W.now fr
      refine rX8_meet_28 ⟨fun z => ?_, fun _ => ca (c_X8_heldR W1.1.1 W1.2.2.1 d1) (ca (c_X8_at W1.2.1 a4 he) (ca (c_X8_heldR W1.1.1 W1.2.2.1 d2) (ca (c_X8_at W1.2.1 b4 he) ⟨e, rfl, by omega, fun k2 e2 => ?_⟩)))⟩
      · rw [W1.2.1.2.2.1] at z
        have := zle z
        omega
      · rw [show (6 : Int32) = nI 6 from rfl, pk_mul, nI_add, ← hX'] at e2
        rw [nI_1]
        refine ih k2 (fr.sI e2 rfl) (fun e' he' => ?_)
        by_cases hx : e' = e
        · subst hx
          rw [e2, zw_sI_s]
        · rw [e2, zw_sI_n (Or.inr hx)]
          exact inv e' (by omega)
  · rw [oT_f (bI_yes c) c2]
    exact W.same _
  · rw [oT_bad (bI_0.mp c)]
    exact W.same _
/-- the lowest partition in which the pairs m are in one block each -/
noncomputable def lub (n m : Nat) : Nat := by classical exact canon n (fun e => fun c => if c < kN n ∧ m &&& km n c = m then ks n c e else 0)
theorem lub_iff {n m : Nat} (h1 : 1 ≤ n) (h2 : n ≤ 6) : lub n m < kN n ∧ ∀ i j, i < n → j < n → ((∀ c, c < kN n → m &&& km n c = m → ks n c i = ks n c j) ↔ ks n (lub n m) i = ks n (lub n m) j) := by
  unfold lub
  obtain ⟨e1, e2⟩ := canon_spec (fun e => fun c => if c < kN n ∧ m &&& km n c = m then ks n c e else 0) h1 h2
  refine ⟨e1, fun i j hi hj => ?_⟩
  rw [← e2 i j hi hj]
  constructor
  · intro h
    funext c
    by_cases hc : c < kN n ∧ m &&& km n c = m
    · rw [if_pos hc, if_pos hc]
      exact h c hc.1 hc.2
    · rw [if_neg hc, if_neg hc]
  · intro h c hc hm
    have h3 := congrFun h c
    rw [if_pos ⟨hc, hm⟩, if_pos ⟨hc, hm⟩] at h3
    exact h3
/-- it is below all that hold the pairs -/
theorem lub_least {n m c : Nat} (h1 : 1 ≤ n) (h2 : n ≤ 6) (hc : c < kN n) (hm : m &&& km n c = m) : le n (lub n m) c := by
  obtain ⟨e1, e2⟩ := lub_iff (m := m) h1 h2
  exact (le_iff h1 h2 e1 hc).mpr (fun i j hi hj e => (e2 i j (by omega) hj).mpr e c hc hm)
/-- all pairs below n -/
def kA (n : Nat) : Nat := km n 0
theorem kA_bit {n i j : Nat} (h1 : 1 ≤ n) (h2 : n ≤ 6) (hi : i < j) (hj : j < 6) : (kA n).testBit (kp i j) = decide (j < n) := by
  have hN := kN_le h1 h2
  unfold kA
  rw [km_bit h1 h2 (by omega) hi hj, ks_0 h1 h2, ks_0 h1 h2]
  simp
/-- it holds the pairs -/
theorem lub_holds {n m : Nat} (h1 : 1 ≤ n) (h2 : n ≤ 6) (hm : m &&& kA n = m) : m &&& km n (lub n m) = m := by
  obtain ⟨e1, e2⟩ := lub_iff (m := m) h1 h2
  have hm15 : m < 32768 := by
    rw [← hm]
    exact Nat.lt_of_le_of_lt Nat.and_le_right (km_lt h1 h2 (by have := kN_le h1 h2; omega))
  apply Nat.eq_of_testBit_eq
  intro p
  rw [Nat.testBit_and]
  by_cases hp : p < 15
  · obtain ⟨i, hi6, j, hj6, hij, rfl⟩ := kp_onto p hp
    cases hb : m.testBit (kp i j) with
    | false => rfl
    | true =>
      have h3 := congrArg (fun z => z.testBit (kp i j)) hm
      simp only [Nat.testBit_and, hb, kA_bit h1 h2 hij hj6, Bool.true_and, decide_eq_true_eq] at h3
      rw [km_bit h1 h2 e1 hij hj6]
      have h4 := (e2 i j (by omega) h3).mp (fun c hc hm2 => by
        have h5 := congrArg (fun z => z.testBit (kp i j)) hm2
        simp only [Nat.testBit_and, hb, Bool.true_and] at h5
        rw [km_bit h1 h2 hc hij hj6] at h5
        simpa [h3] using h5)
      simp [h3, h4]
  · have : m.testBit p = false := Nat.testBit_lt_two_pow (Nat.lt_of_lt_of_le hm15 (by
      have := Nat.pow_le_pow_right (n := 2) (by decide) (show 15 ≤ p by omega)
      omega))
    rw [this]
    rfl
theorem lub_eq {n m g : Nat} (h1 : 1 ≤ n) (h2 : n ≤ 6) (hA : m &&& kA n = m) (hg : g < kN n) (hm : m &&& km n g = m) (hl : ∀ c, c < kN n → m &&& km n c = m → le n g c) : lub n m = g :=
  le_antisymm h1 h2 (lub_iff h1 h2).1 hg (lub_least h1 h2 hg hm) (hl _ (lub_iff h1 h2).1 (lub_holds h1 h2 hA))
theorem km_kA {n g : Nat} (h1 : 1 ≤ n) (h2 : n ≤ 6) (hg : g < kN n) : km n g &&& kA n = km n g :=
  (le_iff h1 h2 hg (by have := kN_le h1 h2; omega)).mpr (fun i j _ _ _ => by rw [ks_0 h1 h2, ks_0 h1 h2])
theorem and_or_sub {a b c : Nat} : (a ||| b) &&& c = (a ||| b) ↔ a &&& c = a ∧ b &&& c = b := by
  constructor
  · intro h
    constructor
    · apply Nat.eq_of_testBit_eq
      intro i
      have h2 := congrArg (fun z => z.testBit i) h
      simp only [Nat.testBit_and, Nat.testBit_or] at h2 ⊢
      cases ha : a.testBit i <;> simp_all
    · apply Nat.eq_of_testBit_eq
      intro i
      have h2 := congrArg (fun z => z.testBit i) h
      simp only [Nat.testBit_and, Nat.testBit_or] at h2 ⊢
      cases hb : b.testBit i <;> simp_all
  · rintro ⟨h1, h2⟩
    rw [Nat.and_or_distrib_right, h1, h2]
