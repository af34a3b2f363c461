/-- the answer x, unless there is a fault f -/
def gd (f x : Int32) : Int32 := if f = 0 then x else f
theorem gd_0 {f x : Int32} (h : f = 0) : gd f x = x := if_pos h
theorem gd_f {f x : Int32} (h : ¬ f = 0) : gd f x = f := if_neg h
theorem m_blocks {h : zw_H} {A : zA} {r : Int32} (W : RW h A) : zpI 3 mX8_blocks [.ref 56, .int r] h (gd (wr1 A.1 r) (nI (kB A.1.1 (rgt A.1 r)))) := by
  have hN := (kN_le W.2.1.1 W.2.1.2.1).1
  refine zcI_of rfl pn_X8 (fun _ => Nat.le_of_ble_eq_true rfl) rfl (rX8_blocks_0 (ca (c_X8_wrong W.1.1 W.2.2.1) ⟨fun c => ?_, fun c => ⟨(gd_f c).symm, rfl⟩⟩))
  obtain ⟨a, a1, a2, a3, a4⟩ := rgt_ok W.1.1 c
  refine ca (c_X8_heldR W.1.1 W.2.2.1 c) ⟨_, rfl, by omega, ?_, rfl⟩
  rw [gd_0 c, W.2.1.2.2.2.2.1 _ a4]
theorem m_blockOf {h : zw_H} {A : zA} {r i : Int32} (W : RW h A) : zpI 2 mX8_blockOf [.ref 56, .int r, .int i] h (gd (wrE A.1 r i i) (nI (ks A.1.1 (rgt A.1 r) (el A.1.1 i)))) := by
  have n1 := W.2.1.1
  have n2 := W.2.1.2.1
  have h57 := W.2.1.2.2.1
  refine zcI_of rfl pn_X8 (fun _ => Nat.le_of_ble_eq_true rfl) rfl (rX8_blockOf_0 (ca (c_X8_isRegister h r) ⟨fun c => ⟨?_, rfl⟩, fun c => ca (c_X8_isElement h57 n1 n2) ⟨fun c2 => ?_, fun c2 => ⟨?_, rfl⟩⟩⟩))
  · have e : wrE A.1 r i i = -1 := by
      unfold wrE
      rw [wr1_bad (bI_0.mp c)]
      cases ri A.1.1 i <;> rfl
    rw [gd_f (by rw [e]; decide), e]
  · obtain ⟨k, hk, rfl⟩ := bI_yes c
    obtain ⟨x, hx, rfl⟩ := bI_yes c2
    rw [wrE_nI n2 hx hx, el_nI n2 hx]
    refine ca (c_X8_held W.2.2.1 hk) ⟨fun c4 => ?_, fun c4 => ⟨?_, rfl⟩⟩
    · have d1 := wr1_set W.1.1 hk c4
      obtain ⟨a, a1, a2, a3, a4⟩ := rgt_ok W.1.1 d1
      refine ca (c_X8_heldR W.1.1 W.2.2.1 d1) (ca (c_X8_at W.2.1 a4 hx) ⟨(gd_0 d1).symm, rfl⟩)
    · have e := wr1_vac W.1.1 hk c4
      rw [gd_f (by rw [e]; decide), e]
  · have e := wrE_1 (r := r) (j := i) n2 (bI_0.mp c2)
    rw [gd_f (by rw [e]; decide), e]
/-- the elements of a block -/
def bms (n g : Nat) (b : Int32) : Nat → Nat
  | 0 => 0
  | e + 1 => if nI (ks n g e) = b then bms n g b e ||| 2 ^ e else bms n g b e
theorem bms_lt (n g : Nat) (b : Int32) : ∀ e, bms n g b e < 2 ^ e
  | 0 => Nat.zero_lt_one
  | e + 1 => by
    have h := bms_lt n g b e
    rw [bms]
    split
    · exact Nat.or_lt_two_pow (Nat.lt_trans h (Nat.pow_lt_pow_right (by decide) (Nat.lt_succ_self e))) (Nat.pow_lt_pow_right (by decide) (Nat.lt_succ_self e))
    · exact Nat.lt_trans h (Nat.pow_lt_pow_right (by decide) (Nat.lt_succ_self e))
theorem m_block {h : zw_H} {A : zA} {r b : Int32} (W : RW h A) : zpI 3 mX8_block [.ref 56, .int r, .int b] h (gd (wr1 A.1 r) (if bms A.1.1 (rgt A.1 r) b A.1.1 = 0 then -9 else nI (bms A.1.1 (rgt A.1 r) b A.1.1))) := by
  have n1 := W.2.1.1
  have n2 := W.2.1.2.1
  have h57 := W.2.1.2.2.1
  refine zcI_of rfl pn_X8 (fun _ => Nat.le_of_ble_eq_true rfl) rfl (rX8_block_0 (ca (c_X8_wrong W.1.1 W.2.2.1) ⟨fun c => ?_, fun c => ⟨(gd_f c).symm, rfl⟩⟩))
  obtain ⟨a, a1, a2, a3, a4⟩ := rgt_ok W.1.1 c
  rw [gd_0 c]
  generalize hr : (if bms A.1.1 (rgt A.1 r) b A.1.1 = 0 then (-9 : Int32) else nI (bms A.1.1 (rgt A.1 r) b A.1.1)) = res
  refine lp_up (P := fun e => zwI 3 mX8_block (fun x h' => x = res ∧ h' = h) 18 [(0, .ref 56), (1, .int r), (2, .int b), (4, .int (nI (bms A.1.1 (rgt A.1 r) b e))), (5, .int (nI e))] [] h) (N := A.1.1) ?_ ?_ 0 (by omega)
  · have hl := bms_lt A.1.1 (rgt A.1 r) b A.1.1
    have hl2 := Nat.pow_le_pow_right (n := 2) (by decide) n2
    refine rX8_block_18 ⟨fun _ => ⟨fun c => ⟨?_, rfl⟩, fun c => ⟨?_, rfl⟩⟩, fun c => absurd (by rw [h57]; exact nI_le (Nat.le_refl _) (by omega)) c⟩
    · rw [← hr, if_neg (fun z => c (by rw [z]; rfl))]
    · rw [← hr, if_pos (zeq (b := 0) c)]
  · intro e he ih
    refine rX8_block_18 ⟨fun c => ?_, fun _ => ca (c_X8_heldR W.1.1 W.2.2.1 c) (ca (c_X8_at W.2.1 a4 he) ⟨fun c2 => ?_, fun c2 => ?_⟩)⟩
    · rw [h57] at c
      have := zle c
      omega
    · rw [bms, if_neg c2] at ih
      rw [nI_1, show (0 : Int32) = nI 0 from rfl, zor, Nat.or_zero]
      exact ih
    · rw [bms, if_pos c2] at ih
      rw [nI_1, zone (by omega), zor]
      exact ih
def tyS (n g : Nat) : Nat → Int32
  | 0 => 0
  | b + 1 => tyS n g b + ((1 : Int32) <<< (((3 : Int32) * (nI (kz n g b) - (1 : Int32))) &&& (31 : Int32)))
theorem m_typeOf {h : zw_H} {A : zA} {r : Int32} (W : RW h A) : zpI 3 mX8_typeOf [.ref 56, .int r] h (gd (wr1 A.1 r) (tyS A.1.1 (rgt A.1 r) (kB A.1.1 (rgt A.1 r)))) := by
  have n1 := W.2.1.1
  have n2 := W.2.1.2.1
  have hN := (kN_le n1 n2).1
  refine zcI_of rfl pn_X8 (fun _ => Nat.le_of_ble_eq_true rfl) rfl (rX8_typeOf_0 (ca (c_X8_wrong W.1.1 W.2.2.1) ⟨fun c => ?_, fun c => ⟨(gd_f c).symm, rfl⟩⟩))
  obtain ⟨a, a1, a2, a3, a4⟩ := rgt_ok W.1.1 c
  have hB := kB_le n1 n2 a4
  have e60 := W.2.1.2.2.2.2.1 _ a4
  rw [gd_0 c]
  generalize hr : tyS A.1.1 (rgt A.1 r) (kB A.1.1 (rgt A.1 r)) = res
  refine lp_up (P := fun b => zwI 3 mX8_typeOf (fun x h' => x = res ∧ h' = h) 17 [(0, .ref 56), (1, .int r), (3, .int (tyS A.1.1 (rgt A.1 r) b)), (4, .int (nI b))] [] h) (N := kB A.1.1 (rgt A.1 r)) ?_ ?_ 0 (by omega)
  · exact rX8_typeOf_17 (ca (c_X8_heldR W.1.1 W.2.2.1 c) ⟨_, rfl, by omega, fun _ => ⟨hr, rfl⟩, fun c => absurd (by rw [e60]; exact nI_le (Nat.le_refl _) (by omega)) c⟩)
  · intro b hb ih
    refine rX8_typeOf_17 (ca (c_X8_heldR W.1.1 W.2.2.1 c) ⟨_, rfl, by omega, fun c => ?_, fun _ => ca (c_X8_heldR W.1.1 W.2.2.1 c) (ca (c_X8_sizeOf W.2.1 a4 (by omega)) ?_)⟩)
    · rw [e60] at c
      have := zle c
      omega
    · rw [nI_1]
      exact ih
/-- how many pairs of blocks cross -/
def crN (n g : Nat) (p : Nat) : Nat := fb_sm (fun p => fb_ct (fun m => kx n g p (p + 1 + m)) (kB n g - (p + 1))) p
theorem m_crossings {h : zw_H} {A : zA} {r : Int32} (W : RW h A) : zpI 3 mX8_crossings [.ref 56, .int r] h (gd (wr1 A.1 r) (nI (crN A.1.1 (rgt A.1 r) (kB A.1.1 (rgt A.1 r))))) := by
  have n1 := W.2.1.1
  have n2 := W.2.1.2.1
  have hN := (kN_le n1 n2).1
  refine zcI_of rfl pn_X8 (fun _ => Nat.le_of_ble_eq_true rfl) rfl (rX8_crossings_0 (ca (c_X8_wrong W.1.1 W.2.2.1) ⟨fun c => ?_, fun c => ⟨(gd_f c).symm, rfl⟩⟩))
  obtain ⟨a, a1, a2, a3, a4⟩ := rgt_ok W.1.1 c
  have hB := kB_le n1 n2 a4
  have e60 := W.2.1.2.2.2.2.1 _ a4
  rw [gd_0 c]
  generalize hr : nI (crN A.1.1 (rgt A.1 r) (kB A.1.1 (rgt A.1 r))) = res
  refine lp_up (P := fun p => zwI 3 mX8_crossings (fun x h' => x = res ∧ h' = h) 17 [(0, .ref 56), (1, .int r), (3, .int (nI (crN A.1.1 (rgt A.1 r) p))), (4, .int (nI p))] [] h) (N := kB A.1.1 (rgt A.1 r)) ?_ ?_ 0 (by omega)
  · exact rX8_crossings_17 (ca (c_X8_heldR W.1.1 W.2.2.1 c) ⟨_, rfl, by omega, fun _ => ⟨hr, rfl⟩, fun c => absurd (by rw [e60]; exact nI_le (Nat.le_refl _) (by omega)) c⟩)
  · intro p hp ih
    refine rX8_crossings_17 (ca (c_X8_heldR W.1.1 W.2.2.1 c) ⟨_, rfl, by omega, fun c => ?_, fun _ => ?_⟩)
    · rw [e60] at c
      have := zle c
      omega
    rw [nI_1]
    have ih' : zwI 3 mX8_crossings (fun x h' => x = res ∧ h' = h) 17 [(0, .ref 56), (1, .int r), (3, .int (nI (crN A.1.1 (rgt A.1 r) p + fb_ct (fun m => kx A.1.1 (rgt A.1 r) p (p + 1 + m)) (kB A.1.1 (rgt A.1 r) - (p + 1))))), (4, .int (nI (p + 1)))] [] h := ih
    refine lp_up (P := fun m => zwI 3 mX8_crossings (fun x h' => x = res ∧ h' = h) 38 [(0, .ref 56), (1, .int r), (3, .int (nI (crN A.1.1 (rgt A.1 r) p + fb_ct (fun m => kx A.1.1 (rgt A.1 r) p (p + 1 + m)) m))), (4, .int (nI p)), (5, .int (nI (p + 1 + m)))] [] h) (N := kB A.1.1 (rgt A.1 r) - (p + 1)) ?_ ?_ 0 (by omega)
    · rw [show p + 1 + (kB A.1.1 (rgt A.1 r) - (p + 1)) = kB A.1.1 (rgt A.1 r) by omega]
      refine rX8_crossings_38 (ca (c_X8_heldR W.1.1 W.2.2.1 c) ⟨_, rfl, by omega, fun _ => ?_, fun c => absurd (by rw [e60]; exact nI_le (Nat.le_refl _) (by omega)) c⟩)
      rw [nI_1]
      exact ih'
    · intro m hm ih2
      refine rX8_crossings_38 (ca (c_X8_heldR W.1.1 W.2.2.1 c) ⟨_, rfl, by omega, fun c => ?_, fun _ => ca (c_X8_heldR W.1.1 W.2.2.1 c) (ca (c_X8_areCrossing W.2.1 a4 (by omega) (by omega) (by omega)) ⟨fun c2 => ?_, fun c2 => ?_⟩)⟩)
      · rw [e60] at c
        have := zle c
        omega
      · rw [fb_ct_succ, if_neg (bI_0.mp c2)] at ih2
        rw [nI_1, Int32.add_zero]
        exact ih2
      · rw [fb_ct_succ, if_pos (bI_yes c2)] at ih2
        rw [nI_1, nI_1]
        exact ih2
def ixI (s : zS) (g : Nat) : Int32 := if adm s g = true then nI (ix s g) else -9
theorem m_index {h : zw_H} {A : zA} {r : Int32} (W : RW h A) : zpI 3 mX8_index [.ref 56, .int r] h (gd (wr1 A.1 r) (ixI A.1 (rgt A.1 r))) := by
  have hN := (kN_le W.2.1.1 W.2.1.2.1).1
  refine zcI_of rfl pn_X8 (fun _ => Nat.le_of_ble_eq_true rfl) rfl (rX8_index_0 (ca (c_X8_wrong W.1.1 W.2.2.1) ⟨fun c => ?_, fun c => ⟨(gd_f c).symm, rfl⟩⟩))
  obtain ⟨a, a1, a2, a3, a4⟩ := rgt_ok W.1.1 c
  refine ca (c_X8_heldR W.1.1 W.2.2.1 c) ⟨_, rfl, by omega, ?_, rfl⟩
  rw [gd_0 c, W.2.2.2.1.1 _ a4]
  rfl
theorem m_why {h : zw_H} {A : zA} {r : Int32} (W : RW h A) : zpI 4 mX8_why [.ref 56, .int r] h (gd (wr1 A.1 r) (nI (rsn A.1 (rgt A.1 r)))) := by
  refine zcI_of rfl pn_X8 (fun _ => Nat.le_of_ble_eq_true rfl) rfl (rX8_why_0 (ca (c_X8_wrong W.1.1 W.2.2.1) ⟨fun c => ?_, fun c => ⟨(gd_f c).symm, rfl⟩⟩))
  obtain ⟨a, a1, a2, a3, a4⟩ := rgt_ok W.1.1 c
  exact ca (c_X8_heldR W.1.1 W.2.2.1 c) (ca (c_X8_reason W.1.1 W.2.1 W.2.2.1 a4) ⟨(gd_0 c).symm, rfl⟩)
theorem m_where {h : zw_H} {A : zA} {r : Int32} (W : RW h A) : zpI 5 mX8_where [.ref 56, .int r] h (gd (wr1 A.1 r) (plc A.1 (rgt A.1 r))) := by
  refine zcI_of rfl pn_X8 (fun _ => Nat.le_of_ble_eq_true rfl) rfl (rX8_where_0 (ca (c_X8_wrong W.1.1 W.2.2.1) ⟨fun c => ?_, fun c => ⟨(gd_f c).symm, rfl⟩⟩))
  obtain ⟨a, a1, a2, a3, a4⟩ := rgt_ok W.1.1 c
  exact ca (c_X8_heldR W.1.1 W.2.2.1 c) (ca (c_X8_placeOf W.1.1 W.2.1 W.2.2.1 a4) ⟨(gd_0 c).symm, rfl⟩)
theorem m_count {h : zw_H} {A : zA} (W : RW h A) : zpI 0 mX8_count [.ref 56] h (nI (cnt A.1)) := 
  zcI_of rfl pn_X8 (fun _ => Nat.le_of_ble_eq_true rfl) rfl (rX8_count_0 ⟨W.2.2.2.1.2, rfl⟩)
def cwN (s : zS) (k g : Nat) : Nat := fb_ct (fun g => adm s g && decide (kB s.1 g = k)) g
theorem c_X8_manyWith {h : zw_H} {s : zS} {k : Nat} (T : RT h s.1) (A : RA h s) (hk : k < 100) : zpI 1 mX8_manyWith [.ref 56, .int (nI k)] h (nI (cwN s k (kN s.1))) := by
  obtain ⟨n1, n2, h3, h4, h5, h6⟩ := id T
  have hN := (kN_le n1 n2).1
  refine zcI_of rfl pn_X8 (fun _ => Nat.le_of_ble_eq_true rfl) rfl (rX8_manyWith_0 ?_)
  generalize hr : nI (cwN s k (kN s.1)) = res
  refine lp_up (P := fun g => zwI 1 mX8_manyWith (fun x h' => x = res ∧ h' = h) 4 [(0, .ref 56), (1, .int (nI k)), (2, .int (nI (cwN s k g))), (3, .int (nI g))] [] h) (N := kN s.1) ?_ ?_ 0 (by omega)
  · exact rX8_manyWith_4 ⟨fun _ => ⟨hr, rfl⟩, fun c => absurd (by rw [h4]; exact nI_le (Nat.le_refl _) (by omega)) c⟩
  · intro g hg ih
    have hB := kB_le n1 n2 hg
    rw [cwN, fb_ct_succ] at ih
    refine rX8_manyWith_4 ⟨fun c => ?_, fun _ => ca (c_X8_isAdmitted T A hg) ⟨fun c => ?_, fun c => ⟨g, rfl, by omega, fun c2 => ?_, fun c2 => ?_⟩⟩⟩
    · rw [h4] at c
      have := zle c
      omega
    · rw [if_neg (fun z => bI_0.mp c (by rw [Bool.and_eq_true] at z; exact z.1))] at ih
      rw [nI_1, Int32.add_zero]
      exact ih
    · rw [h5 g hg] at c2
      have hne := zne c2
      rw [if_neg (fun z => hne (by rw [Bool.and_eq_true, decide_eq_true_eq] at z; exact z.2))] at ih
      rw [nI_1, Int32.add_zero]
      exact ih
    · rw [h5 g hg] at c2
      rw [if_pos (by rw [Bool.and_eq_true, decide_eq_true_eq]; exact ⟨bI_yes c, zeq c2⟩)] at ih
      rw [nI_1, nI_1]
      exact ih
def oCW (s : zS) (k : Int32) : Int32 := match r16 k with
  | none => -1
  | some k => nI (cwN s k (kN s.1))
theorem m_countWith {h : zw_H} {A : zA} {k : Int32} (W : RW h A) : zpI 2 mX8_countWith [.ref 56, .int k] h (oCW A.1 k) := by
  unfold oCW
  refine zcI_of rfl pn_X8 (fun _ => Nat.le_of_ble_eq_true rfl) rfl (rX8_countWith_0 (ca (c_X8_in h _ _ _) ⟨fun c => ⟨?_, rfl⟩, fun c => ?_⟩))
  · rw [r16_none.mpr (bI_0.mp c)]
  · obtain ⟨k', e⟩ := r16_yes (bI_yes c)
    obtain ⟨k1, k2, rfl⟩ := r16_some e
    rw [e]
    exact ca (c_X8_manyWith W.2.1 W.2.2.2.1 (by omega)) ⟨rfl, rfl⟩
theorem m_below {h : zw_H} {A : zA} {r s : Int32} (W : RW h A) : zpI 3 mX8_below [.ref 56, .int r, .int s] h (gd (wr2 A.1 r s) (bI (le A.1.1 (rgt A.1 r) (rgt A.1 s)))) := by
  refine zcI_of rfl pn_X8 (fun _ => Nat.le_of_ble_eq_true rfl) rfl (rX8_below_0 (ca (c_X8_wrongOf W.1.1 W.2.2.1) ⟨fun c => ?_, fun c => ⟨(gd_f c).symm, rfl⟩⟩))
  obtain ⟨d1, d2⟩ := wr2_0 c
  obtain ⟨a, a1, a2, a3, a4⟩ := rgt_ok W.1.1 d1
  obtain ⟨b, b1, b2, b3, b4⟩ := rgt_ok W.1.1 d2
  rw [gd_0 c]
  exact ca (c_X8_heldR W.1.1 W.2.2.1 d1) (ca (c_X8_heldR W.1.1 W.2.2.1 d2) (ca (c_X8_isBelow W.2.1 a4 b4) ⟨fun c => ⟨c.symm, rfl⟩, fun c => ⟨(bI_t (bI_yes c)).symm, rfl⟩⟩))
/-- BAD, EMPTY, or STATE if it isn't admitted -/
def wrA (s : zS) (r : Int32) : Int32 := if wr1 s r = 0 then (if adm s (rgt s r) = true then 0 else -3) else wr1 s r
noncomputable def cvN (s : zS) (g : Nat) (down : Bool) (z : Nat) : Nat := fb_ct (fun z => dB (if down = true then cov s z g else cov s g z)) z
theorem m_covers {h : zw_H} {A : zA} {r v : Int32} {down : Bool} (W : RW h A) (hv : v = 0 ↔ down = false) : zpI 4 mX8_covers [.ref 56, .int r, .int v] h (gd (wrA A.1 r) (nI (cvN A.1 (rgt A.1 r) down (kN A.1.1)))) := by
  obtain ⟨n1, n2, h3, h4, h5, h6⟩ := id W.2.1
  have hN := (kN_le n1 n2).1
  refine zcI_of rfl pn_X8 (fun _ => Nat.le_of_ble_eq_true rfl) rfl (rX8_covers_0 (ca (c_X8_wrong W.1.1 W.2.2.1) ⟨fun c => ?_, fun c => ⟨?_, rfl⟩⟩))
  · obtain ⟨a, a1, a2, a3, a4⟩ := rgt_ok W.1.1 c
    refine ca (c_X8_heldR W.1.1 W.2.2.1 c) (ca (c_X8_isAdmitted W.2.1 W.2.2.2.1 a4) ⟨fun c2 => ?_, fun c2 => ⟨?_, rfl⟩⟩)
    · have e : wrA A.1 r = 0 := by
        unfold wrA
        rw [if_pos c, if_pos (bI_yes c2)]
      rw [gd_0 e]
      generalize hr : nI (cvN A.1 (rgt A.1 r) down (kN A.1.1)) = res
      generalize rgt A.1 r = g at *
      refine lp_up (P := fun z => zwI 4 mX8_covers (fun x h' => x = res ∧ h' = h) 37 [(0, .ref 56), (2, .int v), (4, .int (nI g)), (5, .int (nI (cvN A.1 g down z))), (6, .int (nI z))] [] h) (N := kN A.1.1) ?_ ?_ 0 (by omega)
      · exact rX8_covers_37 ⟨fun _ => ⟨hr, rfl⟩, fun c => absurd (by rw [h4]; exact nI_le (Nat.le_refl _) (by omega)) c⟩
      · intro z hz ih
        rw [cvN, fb_ct_succ] at ih
        refine rX8_covers_37 ⟨fun c => ?_, fun _ => ⟨fun d => ?_, fun d => ?_⟩⟩
        · rw [h4] at c
          have := zle c
          omega
        · have hd := hv.mp d
          subst hd
          simp only [Bool.false_eq_true, if_false] at ih
          refine ca (c_X8_isCover W.2.1 W.2.2.2.1 a4 hz) ⟨fun c3 => ?_, fun c3 => ?_⟩
          · rw [dB_f.mpr (bI_0.mp c3)] at ih
            rw [nI_1, Int32.add_zero]
            exact ih
          · rw [dB_t.mpr (bI_yes c3)] at ih
            rw [nI_1, nI_1]
            exact ih
        · have hd : down = true := by
            cases down with
            | true => rfl
            | false => exact absurd (hv.mpr rfl) d
          subst hd
          simp only [if_true] at ih
          refine ca (c_X8_isCover W.2.1 W.2.2.2.1 hz a4) ⟨fun c3 => ?_, fun c3 => ?_⟩
          · rw [dB_f.mpr (bI_0.mp c3)] at ih
            rw [nI_1, Int32.add_zero]
            exact ih
          · rw [dB_t.mpr (bI_yes c3)] at ih
            rw [nI_1, nI_1]
            exact ih
    · have e : wrA A.1 r = -3 := by
        unfold wrA
        rw [if_pos c, if_neg (bI_0.mp c2)]
      rw [gd_f (by rw [e]; decide), e]
  · have e : wrA A.1 r = wr1 A.1 r := if_neg c
    rw [gd_f (by rw [e]; exact c), e]
noncomputable def inN (s : zS) (a b z : Nat) : Nat := fb_ct (fun z => dB (adm s z = true ∧ le s.1 a z ∧ le s.1 z b)) z
theorem m_interval {h : zw_H} {A : zA} {r s : Int32} (W : RW h A) : zpI 3 mX8_interval [.ref 56, .int r, .int s] h (gd (wr2 A.1 r s) (nI (inN A.1 (rgt A.1 r) (rgt A.1 s) (kN A.1.1)))) := by
  obtain ⟨n1, n2, h3, h4, h5, h6⟩ := id W.2.1
  have hN := (kN_le n1 n2).1
  refine zcI_of rfl pn_X8 (fun _ => Nat.le_of_ble_eq_true rfl) rfl (rX8_interval_0 (ca (c_X8_wrongOf W.1.1 W.2.2.1) ⟨fun c => ?_, fun c => ⟨(gd_f c).symm, rfl⟩⟩))
  obtain ⟨d1, d2⟩ := wr2_0 c
  obtain ⟨a, a1, a2, a3, a4⟩ := rgt_ok W.1.1 d1
  obtain ⟨b, b1, b2, b3, b4⟩ := rgt_ok W.1.1 d2
  rw [gd_0 c]
  generalize hr : nI (inN A.1 (rgt A.1 r) (rgt A.1 s) (kN A.1.1)) = res
  refine lp_up (P := fun z => zwI 3 mX8_interval (fun x h' => x = res ∧ h' = h) 19 [(0, .ref 56), (1, .int r), (2, .int s), (4, .int (nI (inN A.1 (rgt A.1 r) (rgt A.1 s) z))), (5, .int (nI z))] [] h) (N := kN A.1.1) ?_ ?_ 0 (by omega)
  · exact rX8_interval_19 ⟨fun _ => ⟨hr, rfl⟩, fun c => absurd (by rw [h4]; exact nI_le (Nat.le_refl _) (by omega)) c⟩
  · intro z hz ih
    rw [inN, fb_ct_succ] at ih
    refine rX8_interval_19 ⟨fun c => ?_, fun _ => ca (c_X8_heldR W.1.1 W.2.2.1 d1) (ca (c_X8_heldR W.1.1 W.2.2.1 d2) (ca (c_X8_isBetween W.2.1 W.2.2.2.1 hz a4 b4) ⟨fun c3 => ?_, fun c3 => ?_⟩))⟩
    · rw [h4] at c
      have := zle c
      omega
    · rw [dB_f.mpr (bI_0.mp c3)] at ih
      rw [nI_1, Int32.add_zero]
      exact ih
    · rw [dB_t.mpr (bI_yes c3)] at ih
      rw [nI_1, nI_1]
      exact ih
