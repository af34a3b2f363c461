theorem reg_9 {s : zS} (V : SV s) {a : Nat} (ha : a < 8) : enc1 (s.2.2.2.2.2.2 a) = -9 ↔ ¬ (s.2.2.2.2.2.2 a).isSome = true := by
  have hN := (kN_le V.1 V.2.1).1
  rw [enc1_9 (fun b hb => by have := V.2.2.2.2.2.2.2 a b ha hb; omega), none_some]
theorem c_X8_isElement {h : zw_H} {n : Nat} {i : Int32} (h57 : h.1 57 0 = nI n) (h1 : 1 ≤ n) (h2 : n ≤ 6) : zpI 1 mX8_isElement [.ref 56, .int i] h (bI (iR i n)) := by
  refine zcI_of rfl pn_X8 (fun _ => Nat.le_of_ble_eq_true rfl) rfl (rX8_isElement_0 (ca (c_X8_in h _ _ _) ⟨bI_01 _, bI_iff ⟨fun z => ?_, fun z => ?_⟩, rfl⟩))
  · rw [h57, show n = (n - 1) + 1 by omega, nI_pred] at z
    refine iR_of z.1 (fun c => z.2 ?_) (by omega)
    rw [Int32.lt_iff_toInt_lt, nI_toInt (by omega)]
    rw [Int32.le_iff_toInt_le, nI_toInt (by omega)] at c
    omega
  · obtain ⟨k, hk, rfl⟩ := z
    rw [h57, show n = (n - 1) + 1 by omega, nI_pred]
    refine ⟨nI_pos (by omega), fun c => ?_⟩
    have := zlt c
    omega
theorem c_X8_isPair {h : zw_H} {n : Nat} {i j : Int32} (h57 : h.1 57 0 = nI n) (h1 : 1 ≤ n) (h2 : n ≤ 6) : zpI 2 mX8_isPair [.ref 56, .int i, .int j] h (bI (iR i n ∧ iR j n ∧ i ≠ j)) := by
  refine zcI_of rfl pn_X8 (fun _ => Nat.le_of_ble_eq_true rfl) rfl (rX8_isPair_0 (ca (c_X8_isElement h57 h1 h2) ⟨fun c => ⟨?_, rfl⟩, fun c => ca (c_X8_isElement h57 h1 h2) ⟨fun c2 => ⟨?_, rfl⟩, fun c2 => ⟨fun c3 => ⟨?_, rfl⟩, fun c3 => ⟨?_, rfl⟩⟩⟩⟩))
  · exact (bI_f (fun z => bI_0.mp c z.1)).symm
  · exact (bI_f (fun z => bI_0.mp c2 z.2.1)).symm
  · exact (bI_f (fun z => z.2.2 c3)).symm
  · exact (bI_t ⟨Classical.byContradiction (fun z => c (bI_f z)), Classical.byContradiction (fun z => c2 (bI_f z)), c3⟩).symm
theorem c_X8_wrong {h : zw_H} {s : zS} {r : Int32} (V : SV s) (Pg : RP h s) : zpI 2 mX8_wrong [.ref 56, .int r] h (wr1 s r) := by
  refine zcI_of rfl pn_X8 (fun _ => Nat.le_of_ble_eq_true rfl) rfl (rX8_wrong_0 (ca (c_X8_isRegister h r) ⟨fun c => ?_, fun c => ⟨?_, rfl⟩⟩))
  · have hi : iR r 8 := Classical.byContradiction (fun z => c (bI_f z))
    obtain ⟨a, ha⟩ := (ri_iR (by decide)).mp hi
    obtain ⟨h1, rfl⟩ := ri_some ha
    refine ca (c_X8_held Pg h1) ⟨fun c2 => ⟨?_, rfl⟩, fun c2 => ⟨?_, rfl⟩⟩
    · have : (s.2.2.2.2.2.2 a).isSome = true := Classical.byContradiction (fun z => c2 ((reg_9 V h1).mpr z))
      unfold wr1
      rw [ha]
      dsimp only
      rw [if_pos this]
    · unfold wr1
      rw [ha]
      dsimp only
      rw [if_neg ((reg_9 V h1).mp c2)]
  · unfold wr1
    rw [(ri_none (by decide)).mpr (bI_0.mp c)]
theorem c_X8_wrongOf {h : zw_H} {s : zS} {r q : Int32} (V : SV s) (Pg : RP h s) : zpI 2 mX8_wrongOf [.ref 56, .int r, .int q] h (wr2 s r q) := by
  refine zcI_of rfl pn_X8 (fun _ => Nat.le_of_ble_eq_true rfl) rfl (rX8_wrongOf_0 (ca (c_X8_isRegister h r) ⟨fun c => ⟨?_, rfl⟩, fun c => ca (c_X8_isRegister h q) ⟨fun c2 => ?_, fun c2 => ⟨?_, rfl⟩⟩⟩))
  · unfold wr2
    rw [(ri_none (by decide)).mpr (bI_0.mp c)]
  · have hi : iR r 8 := Classical.byContradiction (fun z => c (bI_f z))
    have hi2 : iR q 8 := Classical.byContradiction (fun z => c2 (bI_f z))
    obtain ⟨a, ha⟩ := (ri_iR (by decide)).mp hi
    obtain ⟨h1, rfl⟩ := ri_some ha
    obtain ⟨b, hb⟩ := (ri_iR (by decide)).mp hi2
    obtain ⟨h2, rfl⟩ := ri_some hb
    refine ca (c_X8_held Pg h1) ⟨fun c3 => ⟨?_, rfl⟩, fun c3 => ca (c_X8_held Pg h2) ⟨fun c4 => ⟨?_, rfl⟩, fun c4 => ⟨?_, rfl⟩⟩⟩
    · unfold wr2
      rw [ha, hb]
      dsimp only
      rw [if_neg (fun z => (reg_9 V h1).mp c3 z.1)]
    · unfold wr2
      rw [ha, hb]
      dsimp only
      rw [if_pos ⟨Classical.byContradiction (fun z => c3 ((reg_9 V h1).mpr z)), Classical.byContradiction (fun z => c4 ((reg_9 V h2).mpr z))⟩]
    · unfold wr2
      rw [ha, hb]
      dsimp only
      rw [if_neg (fun z => (reg_9 V h2).mp c4 z.2)]
  · unfold wr2
    rw [(ri_none (by decide)).mpr (bI_0.mp c2)]
    cases ri 8 r <;> rfl
/-- what a register that can be read holds -/
theorem rgt_ok {s : zS} {r : Int32} (V : SV s) (h : wr1 s r = 0) : ∃ a, a < 8 ∧ r = nI a ∧ s.2.2.2.2.2.2 a = some (rgt s r) ∧ rgt s r < kN s.1 := by
  obtain ⟨a, h1, h2, h3⟩ := wr1_0 h
  exact ⟨a, h1, h2, h3, V.2.2.2.2.2.2.2 a _ h1 h3⟩
theorem c_X8_heldR {h : zw_H} {s : zS} {r : Int32} (V : SV s) (Pg : RP h s) (hw : wr1 s r = 0) : zpI 0 mX8_held [.ref 56, .int r] h (nI (rgt s r)) := by
  obtain ⟨a, h1, h2, h3, h4⟩ := rgt_ok V hw
  have := c_X8_held Pg h1
  rw [h3, ← h2] at this
  exact this
theorem c_X8_wrongAdmitted {h : zw_H} {s : zS} {r q : Int32} (V : SV s) (T : RT h s.1) (Pg : RP h s) (A : RA h s) : zpI 3 mX8_wrongAdmitted [.ref 56, .int r, .int q] h (wr3 s r q) := by
  refine zcI_of rfl pn_X8 (fun _ => Nat.le_of_ble_eq_true rfl) rfl (rX8_wrongAdmitted_0 (ca (c_X8_wrongOf V Pg) ⟨fun c => ?_, fun c => ⟨?_, rfl⟩⟩))
  · obtain ⟨e1, e2⟩ := wr2_0 c
    obtain ⟨a, a1, a2, a3, a4⟩ := rgt_ok V e1
    obtain ⟨b, b1, b2, b3, b4⟩ := rgt_ok V e2
    unfold wr3
    rw [if_pos c]
    refine ca (c_X8_heldR V Pg e1) (ca (c_X8_isAdmitted T A a4) ⟨fun c2 => ⟨?_, rfl⟩, fun c2 => ca (c_X8_heldR V Pg e2) (ca (c_X8_isAdmitted T A b4) ⟨fun c3 => ⟨?_, rfl⟩, fun c3 => ⟨?_, rfl⟩⟩)⟩)
    · rw [if_neg (fun z => bI_0.mp c2 z.1)]
    · rw [if_neg (fun z => bI_0.mp c3 z.2)]
    · rw [if_pos ⟨Classical.byContradiction (fun z => c2 (bI_f z)), Classical.byContradiction (fun z => c3 (bI_f z))⟩]
  · unfold wr3
    rw [if_neg c]
theorem c_X8_isBase {h : zw_H} {x : Int32} : zpI 1 mX8_isBase [.int x] h (bI (¬ x < -9 ∧ ¬ 9 < x)) := by
  exact zcI_of rfl pn_X8 (fun _ => Nat.le_of_ble_eq_true rfl) rfl (rX8_isBase_0 (ca (c_X8_in h _ _ _) ⟨bI_01 _, rfl, rfl⟩))
theorem c_X8_isBetween {h : zw_H} {s : zS} {z a b : Nat} (T : RT h s.1) (A : RA h s) (hz : z < kN s.1) (ha : a < kN s.1) (hb : b < kN s.1) : zpI 2 mX8_isBetween [.ref 56, .int (nI z), .int (nI a), .int (nI b)] h (bI (adm s z = true ∧ le s.1 a z ∧ le s.1 z b)) := by
  refine zcI_of rfl pn_X8 (fun _ => Nat.le_of_ble_eq_true rfl) rfl (rX8_isBetween_0 (ca (c_X8_isAdmitted T A hz) ⟨fun c => ⟨?_, rfl⟩, fun c => ca (c_X8_isBelow T ha hz) ⟨fun c2 => ⟨?_, rfl⟩, fun c2 => ca (c_X8_isBelow T hz hb) ⟨fun c3 => ⟨?_, rfl⟩, fun c3 => ⟨?_, rfl⟩⟩⟩⟩))
  · exact (bI_f (fun w => bI_0.mp c w.1)).symm
  · exact (bI_f (fun w => bI_0.mp c2 w.2.1)).symm
  · exact (bI_f (fun w => bI_0.mp c3 w.2.2)).symm
  · exact (bI_t ⟨Classical.byContradiction (fun w => c (bI_f w)), Classical.byContradiction (fun w => c2 (bI_f w)), Classical.byContradiction (fun w => c3 (bI_f w))⟩).symm
/-- an upper (lower) bound of a and b -/
def bnd (s : zS) (a b : Nat) (down : Bool) (z : Nat) : Prop := adm s z = true ∧ (if down = true then le s.1 z a ∧ le s.1 z b else le s.1 a z ∧ le s.1 b z)
theorem c_X8_isBound {h : zw_H} {s : zS} {z a b : Nat} {down : Bool} {v : Int32} (T : RT h s.1) (A : RA h s) (hz : z < kN s.1) (ha : a < kN s.1) (hb : b < kN s.1) (hv : v = 0 ↔ down = false) : zpI 2 mX8_isBound [.ref 56, .int (nI z), .int (nI a), .int (nI b), .int v] h (bI (bnd s a b down z)) := by
  refine zcI_of rfl pn_X8 (fun _ => Nat.le_of_ble_eq_true rfl) rfl (rX8_isBound_0 (ca (c_X8_isAdmitted T A hz) ⟨fun c => ⟨?_, rfl⟩, fun c => ⟨fun d => ?_, fun d => ?_⟩⟩))
  · exact (bI_f (fun w => bI_0.mp c w.1)).symm
  · have hd := hv.mp d
    subst hd
    unfold bnd
    simp only [Bool.false_eq_true, if_false]
    refine ca (c_X8_isBelow T ha hz) ⟨fun c2 => ⟨?_, rfl⟩, fun c2 => ca (c_X8_isBelow T hb hz) ⟨fun c3 => ⟨?_, rfl⟩, fun c3 => ⟨?_, rfl⟩⟩⟩
    · exact (bI_f (fun w => bI_0.mp c2 w.2.1)).symm
    · exact (bI_f (fun w => bI_0.mp c3 w.2.2)).symm
    · exact (bI_t ⟨Classical.byContradiction (fun w => c (bI_f w)), Classical.byContradiction (fun w => c2 (bI_f w)), Classical.byContradiction (fun w => c3 (bI_f w))⟩).symm
  · have hd : down = true := by
      cases down with
      | true => rfl
      | false => exact absurd (hv.mpr rfl) d
    subst hd
    unfold bnd
    simp only [if_true]
    refine ca (c_X8_isBelow T hz ha) ⟨fun c2 => ⟨?_, rfl⟩, fun c2 => ca (c_X8_isBelow T hz hb) ⟨fun c3 => ⟨?_, rfl⟩, fun c3 => ⟨?_, rfl⟩⟩⟩
    · exact (bI_f (fun w => bI_0.mp c2 w.2.1)).symm
    · exact (bI_f (fun w => bI_0.mp c3 w.2.2)).symm
    · exact (bI_t ⟨Classical.byContradiction (fun w => c (bI_f w)), Classical.byContradiction (fun w => c2 (bI_f w)), Classical.byContradiction (fun w => c3 (bI_f w))⟩).symm
/-- a is strictly below b -/
def lt (n a b : Nat) : Prop := le n a b ∧ a ≠ b
/-- b covers a -/
def cov (s : zS) (a b : Nat) : Prop := adm s a = true ∧ adm s b = true ∧ lt s.1 a b ∧ ∀ z, z < kN s.1 → ¬ (adm s z = true ∧ lt s.1 a z ∧ lt s.1 z b)
theorem c_X8_isCover {h : zw_H} {s : zS} {a b : Nat} (T : RT h s.1) (A : RA h s) (ha : a < kN s.1) (hb : b < kN s.1) : zpI 3 mX8_isCover [.ref 56, .int (nI a), .int (nI b)] h (bI (cov s a b)) := by
  obtain ⟨h1, h2, h3, h4, h5, h6⟩ := id T
  have hN := (kN_le h1 h2).1
  refine zcI_of rfl pn_X8 (fun _ => Nat.le_of_ble_eq_true rfl) rfl (rX8_isCover_0 (ca (c_X8_isAdmitted T A ha) ⟨fun c => ⟨?_, rfl⟩, fun c => ca (c_X8_isAdmitted T A hb) ⟨fun c2 => ⟨?_, rfl⟩, fun c2 => ca (c_X8_isStrictly T ha hb) ⟨fun c3 => ?_, fun c3 => ⟨?_, rfl⟩⟩⟩⟩))
  · exact (bI_f (fun w => bI_0.mp c w.1)).symm
  · exact (bI_f (fun w => bI_0.mp c2 w.2.1)).symm
  · generalize hr : bI (cov s a b) = r
    refine lp_up (P := fun z => (∀ z', z' < z → ¬ (adm s z' = true ∧ lt s.1 a z' ∧ lt s.1 z' b)) → zwI 3 mX8_isCover (fun x h' => x = r ∧ h' = h) 29 [(0, .ref 56), (1, .int (nI a)), (2, .int (nI b)), (3, .int (nI z))] [] h) (N := kN s.1) ?_ ?_ 0 (by omega) (fun _ h => absurd h (by omega))
    · intro inv
      refine rX8_isCover_29 ⟨fun _ => ⟨?_, rfl⟩, fun c => absurd (by rw [h4]; exact nI_le (Nat.le_refl _) (by omega)) c⟩
      rw [← hr]
      exact (bI_t ⟨Classical.byContradiction (fun w => c (bI_f w)), Classical.byContradiction (fun w => c2 (bI_f w)), Classical.byContradiction (fun w => c3 (bI_f w)), inv⟩).symm
    · intro z hz ih inv
      have go : ¬ (adm s z = true ∧ lt s.1 a z ∧ lt s.1 z b) → zwI 3 mX8_isCover (fun x h' => x = r ∧ h' = h) 29 [(0, .ref 56), (1, .int (nI a)), (2, .int (nI b)), (3, .int (nI z + 1))] [] h := by
        intro no
        rw [nI_1]
        refine ih (fun z' hz' => ?_)
        by_cases hx : z' = z
        · rw [hx]; exact no
        · exact inv z' (by omega)
      refine rX8_isCover_29 ⟨fun d => ?_, fun _ => ca (c_X8_isAdmitted T A hz) ⟨fun d => go (fun w => bI_0.mp d w.1), fun d => ca (c_X8_isStrictly T ha hz) ⟨fun d2 => go (fun w => bI_0.mp d2 w.2.1), fun d2 => ca (c_X8_isStrictly T hz hb) ⟨fun d3 => go (fun w => bI_0.mp d3 w.2.2), fun d3 => ⟨?_, rfl⟩⟩⟩⟩⟩
      · rw [h4] at d
        have := zle d
        omega
      · rw [← hr]
        exact (bI_f (fun w => w.2.2.2 z hz ⟨Classical.byContradiction (fun w => d (bI_f w)), Classical.byContradiction (fun w => d2 (bI_f w)), Classical.byContradiction (fun w => d3 (bI_f w))⟩)).symm
  · exact (bI_f (fun w => bI_0.mp c3 w.2.2.1)).symm
