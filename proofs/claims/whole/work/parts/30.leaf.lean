theorem pn_X0 : plainName RX0 = true := by decide
theorem pn_X1 : plainName RX1 = true := by decide
theorem pn_X2 : plainName RX2 = true := by decide
theorem pn_X3 : plainName RX3 = true := by decide
theorem pn_X4 : plainName RX4 = true := by decide
theorem pn_X5 : plainName RX5 = true := by decide
theorem pn_X6 : plainName RX6 = true := by decide
theorem pn_X7 : plainName RX7 = true := by decide
theorem pn_X8 : plainName RX8 = true := by decide
theorem pn_J6 : plainName RJ6 = true := by decide
theorem c_X7_isRegister (h : zw_H) (r : Int32) : zpI 0 mX7_isRegister [.int r] h (bI (iR r 8)) := by
  refine zcI_of rfl pn_X7 (fun _ => Nat.le_of_ble_eq_true rfl) rfl ?_
  exact rX7_isRegister_0 ⟨fun c => ⟨(bI_f (iR_neg c (by decide))).symm, rfl⟩, fun c => ⟨fun c2 => ⟨(bI_f (iR_big c2 (by decide))).symm, rfl⟩, fun c2 => ⟨(bI_t (iR_of c c2 (by decide))).symm, rfl⟩⟩⟩
theorem c_X8_in (h : zw_H) (v lo hi : Int32) : zpI 0 mX8_in [.int v, .int lo, .int hi] h (bI (¬ v < lo ∧ ¬ hi < v)) := by
  refine zcI_of rfl pn_X8 (fun _ => Nat.le_of_ble_eq_true rfl) rfl ?_
  exact rX8_in_0 ⟨fun c => ⟨(bI_f (fun z => z.1 c)).symm, rfl⟩, fun c => ⟨fun c2 => ⟨(bI_f (fun z => z.2 c2)).symm, rfl⟩, fun c2 => ⟨(bI_t ⟨c, c2⟩).symm, rfl⟩⟩⟩
theorem c_X8_isRegister (h : zw_H) (r : Int32) : zpI 1 mX8_isRegister [.int r] h (bI (iR r 8)) := by
  refine zcI_of rfl pn_X8 (fun _ => Nat.le_of_ble_eq_true rfl) rfl ?_
  refine rX8_isRegister_0 (ca (c_X8_in h r _ _) ?_)
  refine ⟨bI_01 _, bI_iff ⟨fun z => ?_, fun z => ?_⟩, rfl⟩
  · exact iR_of z.1 (fun c => z.2 (by
      rw [Int32.lt_iff_toInt_lt]
      rw [Int32.le_iff_toInt_le] at c
      have e1 : (nI 8).toInt = 8 := by decide
      have e2 : (7 : Int32).toInt = 7 := by decide
      omega)) (by decide)
  · obtain ⟨k, hk, rfl⟩ := z
    refine ⟨nI_pos (by omega), fun c => ?_⟩
    have := zlt (a := 7) c
    omega
def pbit (i j : Nat) : Nat := if i = j then 0 else if i < j then 2 ^ kp i j else 2 ^ kp j i
theorem pbit_1 : ∀ i, i < 6 → ∀ j, j < 6 → i < j → ((1 : Int32) <<< ((((((nI i * ((11 : Int32) - nI i)) / (2 : Int32)) + nI j) - nI i) - (1 : Int32)) &&& 31)) = nI (2 ^ kp i j) := by decide +kernel
theorem c_X7_pairBit (h : zw_H) {i j : Nat} (hi : i < 6) (hj : j < 6) : zpI 0 mX7_pairBit [.int (nI i), .int (nI j)] h (nI (pbit i j)) := by
  refine zcI_of rfl pn_X7 (fun _ => Nat.le_of_ble_eq_true rfl) rfl ?_
  refine rX7_pairBit_0 ⟨fun c => ⟨fun c1 => ⟨fun c2 => ⟨?_, rfl⟩, fun c2 => absurd c1 c2⟩, fun c1 => ⟨fun c2 => absurd c2 c1, fun c2 => ⟨?_, rfl⟩⟩⟩, fun c => ⟨?_, rfl⟩⟩
  · have h1 := zne c
    have h2 := zle c1
    rw [pbit_1 j hj i hi (by omega), pbit, if_neg h1, if_neg (by omega)]
  · have h1 := zne c
    have h2 := znle c1
    rw [pbit_1 i hi j hj (by omega), pbit, if_neg h1, if_pos (by omega)]
  · rw [pbit, if_pos (zeq c)]
    rfl
theorem c_X8_bitOf (h : zw_H) {i j : Nat} (hi : i < 6) (hj : j < 6) (hij : i ≠ j) : zpI 0 mX8_bitOf [.int (nI i), .int (nI j)] h (nI (pbit i j)) := by
  refine zcI_of rfl pn_X8 (fun _ => Nat.le_of_ble_eq_true rfl) rfl ?_
  refine rX8_bitOf_0 ⟨fun c1 => ⟨fun c2 => ⟨?_, rfl⟩, fun c2 => absurd c1 c2⟩, fun c1 => ⟨fun c2 => absurd c2 c1, fun c2 => ⟨?_, rfl⟩⟩⟩
  · have h2 := zle c1
    rw [pbit_1 j hj i hi (by omega), pbit, if_neg hij, if_neg (by omega)]
  · have h2 := znle c1
    rw [pbit_1 i hi j hj (by omega), pbit, if_neg hij, if_pos (by omega)]
theorem c_X7_isBelow (h : zw_H) {a b : Nat} (ha : a < 2147483648) (hb : b < 2147483648) : zpI 0 mX7_isBelow [.int (nI a), .int (nI b)] h (bI (a &&& b = a)) := by
  refine zcI_of rfl pn_X7 (fun _ => Nat.le_of_ble_eq_true rfl) rfl ?_
  exact rX7_isBelow_0 ⟨fun c => ⟨(bI_f (fun z => c ((zsub ha hb).mpr z))).symm, rfl⟩, fun c => ⟨(bI_t ((zsub ha hb).mp c)).symm, rfl⟩⟩
def pwk (m e : Nat) : Nat → Nat
  | 0 => 0
  | f + 1 => if m.testBit f then pwk m e f ||| pbit e f else pwk m e f
theorem c_X7_pairsWith (h : zw_H) {m e : Nat} (hm : m < 2147483648) (he : e < 6) : zpI 1 mX7_pairsWith [.int (nI m), .int (nI e)] h (nI (pwk m e 6)) := by
  refine zcI_of rfl pn_X7 (fun _ => Nat.le_of_ble_eq_true rfl) rfl (rX7_pairsWith_0 ?_)
  generalize hr : nI (pwk m e 6) = r
  refine lp_up (P := fun f => zwI 1 mX7_pairsWith (fun x h' => x = r ∧ h' = h) 4 [(0, .int (nI m)), (1, .int (nI e)), (2, .int (nI (pwk m e f))), (3, .int (nI f))] [] h) (N := 6) ?_ ?_ 0 (by decide)
  · exact rX7_pairsWith_4 ⟨fun _ => ⟨hr, rfl⟩, fun c => absurd (by decide) c⟩
  · intro f hf ih
    refine rX7_pairsWith_4 ⟨fun c => ?_, fun _ => ⟨fun c => ?_, fun c => ca (c_X7_pairBit h he hf) ?_⟩⟩
    · have := zle (a := 6) c
      omega
    · have hb := (zbit0 hm (by omega)).mp c
      rw [pwk, if_neg (by rw [hb]; decide)] at ih
      rw [nI_1]
      exact ih
    · have hb : m.testBit f = true := by
        cases hx : m.testBit f with
        | true => rfl
        | false => exact absurd ((zbit0 hm (by omega)).mpr hx) c
      rw [pwk, if_pos hb, ← zor] at ih
      rw [nI_1]
      exact ih
