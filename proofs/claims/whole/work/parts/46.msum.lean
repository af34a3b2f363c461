def pw (x : Int32) : Nat → Int64
  | 0 => 1
  | k + 1 => pw x k * Int32.toInt64 x
theorem c_X8_power {h : zw_H} {x : Int32} {k : Nat} (hk : k < 100) : zpL 0 mX8_power [.int x, .int (nI k)] h (pw x k) := by
  refine zcL_of rfl pn_X8 (fun _ => Nat.le_of_ble_eq_true rfl) rfl (rX8_power_0 ?_)
  generalize hr : pw x k = res
  refine lp_up (P := fun i => zwL 0 mX8_power (fun x h' => x = res ∧ h' = h) 5 [(0, .int x), (1, .int (nI k)), (2, .long (pw x i)), (4, .int (nI i))] [] h) (N := k) ?_ ?_ 0 (by omega)
  · exact rX8_power_5 ⟨fun _ => ⟨hr, rfl⟩, fun c => absurd (nI_le (Nat.le_refl _) (by omega)) c⟩
  · intro i hi ih
    refine rX8_power_5 ⟨fun c => ?_, fun _ => ?_⟩
    · have := zle c
      omega
    · rw [nI_1]
      exact ih
def bs9 (x : Int32) : Prop := ¬ x < -9 ∧ ¬ 9 < x
noncomputable def fRS (s : zS) (r q x : Int32) : Int32 := by classical exact if bs9 x then wr2 s r q else -1
noncomputable def rsT (s : zS) (a b : Nat) (x : Int32) (z : Nat) : Int64 := by classical exact if btw s a b z then pw x (kB s.1 a - kB s.1 z) else 0
theorem le_kB {n a b : Nat} (h1 : 1 ≤ n) (h2 : n ≤ 6) (ha : a < kN n) (hb : b < kN n) (h : le n a b) : kB n b ≤ kB n a := by
  by_cases hx : a = b
  · rw [hx]; exact Nat.le_refl _
  · exact Nat.le_of_lt (kB_lt h1 h2 ha hb ⟨h, hx⟩)
theorem m_rankSum {h : zw_H} {A : zA} {r s x : Int32} (W : RW h A) : zpL 3 mX8_rankSum [.ref 56, .int r, .int s, .int x] h (gdV (fRS A.1 r s x) (sL (rsT A.1 (rgt A.1 r) (rgt A.1 s) x) (kN A.1.1))) := by
  have n1 := W.2.1.1
  have n2 := W.2.1.2.1
  have hN := (kN_le n1 n2).1
  refine zcL_of rfl pn_X8 (fun _ => Nat.le_of_ble_eq_true rfl) rfl (rX8_rankSum_0 (ca (c_X8_isBase) ⟨fun c => ⟨fun q => absurd q (by decide), fun _ => ⟨?_, rfl⟩⟩, fun c => ca (c_X8_wrongOf W.1.1 W.2.2.1) ⟨fun c2 => ?_, fun c2 => ⟨?_, rfl⟩⟩⟩))
  · have e : fRS A.1 r s x = -1 := by unfold fRS; exact if_neg (bI_0.mp c)
    rw [e]
    rfl
  · have e : fRS A.1 r s x = 0 := by unfold fRS; rw [if_pos (show bs9 x from bI_yes c), c2]
    rw [e, gdV, if_pos rfl]
    obtain ⟨d1, d2⟩ := wr2_0 c2
    obtain ⟨a, a1, a2, a3, a4⟩ := rgt_ok W.1.1 d1
    obtain ⟨b, b1, b2, b3, b4⟩ := rgt_ok W.1.1 d2
    generalize hr : sL (rsT A.1 (rgt A.1 r) (rgt A.1 s) x) (kN A.1.1) = res
    refine lp_up (P := fun z => zwL 3 mX8_rankSum (fun x h' => x = res ∧ h' = h) 38 [(0, .ref 56), (1, .int r), (2, .int s), (3, .int x), (5, .long (sL (rsT A.1 (rgt A.1 r) (rgt A.1 s) x) z)), (7, .int (nI z))] [] h) (N := kN A.1.1) ?_ ?_ 0 (by omega)
    · exact rX8_rankSum_38 ⟨fun _ => ⟨hr, rfl⟩, fun c => absurd (by rw [W.2.1.2.2.2.1]; exact nI_le (Nat.le_refl _) (by omega)) c⟩
    · intro z hz ih
      have hB := kB_le n1 n2 hz
      have hA := kB_le n1 n2 a4
      rw [sL] at ih
      refine rX8_rankSum_38 ⟨fun c => ?_, fun _ => ca (c_X8_heldR W.1.1 W.2.2.1 d1) (ca (c_X8_heldR W.1.1 W.2.2.1 d2) (ca (c_X8_isBetween W.2.1 W.2.2.2.1 hz a4 b4) ⟨fun c => ?_, fun c => ca (c_X8_rank W.2.1 hz) (ca (c_X8_heldR W.1.1 W.2.2.1 d1) (ca (c_X8_rank W.2.1 a4) ?_))⟩))⟩
      · rw [W.2.1.2.2.2.1] at c
        have := zle c
        omega
      · rw [nI_1]
        rw [rsT, if_neg (show ¬ btw _ _ _ _ from bI_0.mp c)] at ih
        exact ih
      · have hb : btw A.1 (rgt A.1 r) (rgt A.1 s) z := bI_yes c
        have hle := le_kB n1 n2 a4 hz hb.2.1
        rw [pk_sub (by omega), show A.1.1 - kB A.1.1 z - (A.1.1 - kB A.1.1 (rgt A.1 r)) = kB A.1.1 (rgt A.1 r) - kB A.1.1 z by omega]
        refine caL (c_X8_power (by omega)) ?_
        rw [nI_1]
        rw [rsT, if_pos hb] at ih
        exact ih
  · have e : fRS A.1 r s x = wr2 A.1 r s := by unfold fRS; exact if_pos (bI_yes c)
    rw [e, gdV, if_neg c2]
noncomputable def fCP (s : zS) (r q x : Int32) : Int32 := by classical exact if bs9 x then (if wr2 s r q = 0 then (if adm s (rgt s r) = true then 0 else -3) else wr2 s r q) else -1
noncomputable def cpT (s : zS) (a b : Nat) (x : Int32) (z : Nat) : Int64 := by classical exact if btw s a b z then mu s a b z * pw x (kB s.1 z - kB s.1 b) else 0
theorem m_characteristic {h : zw_H} {A : zA} {r s x : Int32} (W : RW h A) : zcL 4 mX8_characteristic [.ref 56, .int r, .int s, .int x] h (opL h (gdV (fCP A.1 r s x) (sL (cpT A.1 (rgt A.1 r) (rgt A.1 s) x) (kN A.1.1)), A)) := by
  have n1 := W.2.1.1
  have n2 := W.2.1.2.1
  have hN := (kN_le n1 n2).1
  refine zcL_of rfl pn_X8 (fun _ => Nat.le_of_ble_eq_true rfl) rfl (rX8_characteristic_0 (ca (c_X8_isBase) ⟨fun c => ⟨fun _ => ⟨fun q => absurd q (by decide), fun _ => ?_⟩, fun q => absurd q (by decide)⟩, fun c => ca (c_X8_wrongOf W.1.1 W.2.2.1) ⟨fun c2 => ⟨fun q => absurd q c2, fun _ => ?_⟩, fun c2 => ?_⟩⟩))
  · have e : fCP A.1 r s x = -1 := by unfold fCP; exact if_neg (bI_0.mp c)
    rw [e]
    exact W.sameL _
  · have e : fCP A.1 r s x = wr2 A.1 r s := by unfold fCP; rw [if_pos (show bs9 x from bI_yes c), if_neg c2]
    rw [e, gdV, if_neg c2]
    exact W.sameL _
  · obtain ⟨d1, d2⟩ := wr2_0 c2
    obtain ⟨a, a1, a2, a3, a4⟩ := rgt_ok W.1.1 d1
    obtain ⟨b, b1, b2, b3, b4⟩ := rgt_ok W.1.1 d2
    refine ca (c_X8_heldR W.1.1 W.2.2.1 d1) (ca (c_X8_isAdmitted W.2.1 W.2.2.2.1 a4) ⟨fun c3 => ⟨fun _ => ca (c_X8_heldR W.1.1 W.2.2.1 d1) (ca (c_X8_heldR W.1.1 W.2.2.1 d2) (caV (c_X8_moebiuses W.2.1 W.2.2.2.1 a4 b4) (fun k rr => ?_))), fun q => absurd c2 q⟩, fun c3 => ⟨fun q => absurd q (by decide), fun _ => ?_⟩⟩)
    · have e : fCP A.1 r s x = 0 := by unfold fCP; rw [if_pos (show bs9 x from bI_yes c), if_pos c2, if_pos (bI_yes c3)]
      rw [e, gdV, if_pos rfl]
      have W1 : RW k A := W.fr (rr.2.mo (fun a b z => by unfold pS; omega))
      generalize hQ : opL h (sL (cpT A.1 (rgt A.1 r) (rgt A.1 s) x) (kN A.1.1), A) = Q
      refine lp_up (P := fun z => zwL 4 mX8_characteristic Q 78 [(0, .ref 56), (1, .int r), (2, .int s), (3, .int x), (5, .long (sL (cpT A.1 (rgt A.1 r) (rgt A.1 s) x) z)), (7, .int (nI z))] [] k) (N := kN A.1.1) ?_ ?_ 0 (by omega)
      · refine rX8_characteristic_78 ⟨fun _ => ?_, fun c => absurd (by rw [W1.2.1.2.2.2.1]; exact nI_le (Nat.le_refl _) (by omega)) c⟩
        rw [← hQ]
        exact ⟨rfl, W1, rr.2.mo (fun a b z => by unfold pR; omega)⟩
      · intro z hz ih
        have hB := kB_le n1 n2 hz
        have hA := kB_le n1 n2 b4
        rw [sL] at ih
        refine rX8_characteristic_78 ⟨fun c => ?_, fun _ => ca (c_X8_heldR W1.1.1 W1.2.2.1 d1) (ca (c_X8_heldR W1.1.1 W1.2.2.1 d2) (ca (c_X8_isBetween W1.2.1 W1.2.2.2.1 hz a4 b4) ⟨fun c => ?_, fun c => ⟨z, rfl, by omega, ca (c_X8_heldR W1.1.1 W1.2.2.1 d2) (ca (c_X8_rank W1.2.1 b4) (ca (c_X8_rank W1.2.1 hz) ?_))⟩⟩))⟩
        · rw [W1.2.1.2.2.2.1] at c
          have := zle c
          omega
        · rw [nI_1]
          rw [cpT, if_neg (show ¬ btw _ _ _ _ from bI_0.mp c)] at ih
          exact ih
        · have hb : btw A.1 (rgt A.1 r) (rgt A.1 s) z := bI_yes c
          have hle := le_kB n1 n2 hz b4 hb.2.2
          rw [pk_sub (by omega), show A.1.1 - kB A.1.1 (rgt A.1 s) - (A.1.1 - kB A.1.1 z) = kB A.1.1 z - kB A.1.1 (rgt A.1 s) by omega]
          refine caL (c_X8_power (by omega)) ?_
          rw [nI_1, rr.1 z hz]
          rw [cpT, if_pos hb] at ih
          exact ih
    · have e : fCP A.1 r s x = -3 := by unfold fCP; rw [if_pos (show bs9 x from bI_yes c), if_pos c2, if_neg (bI_0.mp c3)]
      rw [e]
      exact W.sameL _
/-- how many elements are in the block p of a and the block q of b -/
def cmn (n a p b q e : Nat) : Nat := fb_ct (fun e => decide (ks n a e = p) && decide (ks n b e = q)) e
theorem c_X8_common {h : zw_H} {n a p b q : Nat} (T : RT h n) (ha : a < kN n) (hb : b < kN n) (hp : p < 100) (hq : q < 100) : zpI 1 mX8_common [.ref 56, .int (nI a), .int (nI p), .int (nI b), .int (nI q)] h (nI (cmn n a p b q n)) := by
  have n1 := T.1
  have n2 := T.2.1
  have h57 := T.2.2.1
  refine zcI_of rfl pn_X8 (fun _ => Nat.le_of_ble_eq_true rfl) rfl (rX8_common_0 ?_)
  generalize hr : nI (cmn n a p b q n) = res
  refine lp_up (P := fun e => zwI 1 mX8_common (fun x h' => x = res ∧ h' = h) 6 [(0, .ref 56), (1, .int (nI a)), (2, .int (nI p)), (3, .int (nI b)), (4, .int (nI q)), (5, .int (nI (cmn n a p b q e))), (6, .int (nI e))] [] h) (N := n) ?_ ?_ 0 (by omega)
  · exact rX8_common_6 ⟨fun _ => ⟨hr, rfl⟩, fun c => absurd (by rw [h57]; exact nI_le (Nat.le_refl _) (by omega)) c⟩
  · intro e he ih
    have k1 := ks_lt n1 n2 ha he
    have k2 := ks_lt n1 n2 hb he
    rw [cmn, fb_ct_succ] at ih
    refine rX8_common_6 ⟨fun c => ?_, fun _ => ca (c_X8_at T ha he) ⟨fun c => ?_, fun c => ca (c_X8_at T hb he) ⟨fun c2 => ?_, fun c2 => ?_⟩⟩⟩
    · rw [h57] at c
      have := zle c
      omega
    · have hne := zne c
      rw [if_neg (by simp [hne])] at ih
      rw [nI_1, Int32.add_zero]
      exact ih
    · have hne := zne c2
      rw [if_neg (by simp [hne])] at ih
      rw [nI_1, Int32.add_zero]
      exact ih
    · have h1 := zeq c
      have h2 := zeq c2
      rw [if_pos (by simp [h1, h2])] at ih
      rw [nI_1, nI_1]
      exact ih
/-- the most that stay of the first blocks of a, in other blocks of b each, out of a set; some of b's -/
def styI (c : Nat → Nat) (D : Nat → Nat) (set m0 : Nat) : Nat → Nat
  | 0 => m0
  | q + 1 => if set.testBit q then max (styI c D set m0 q) (D (set ^^^ 2 ^ q) + c q) else styI c D set m0 q
def sty (n a b : Nat) : Nat → Nat → Nat
  | 0, _ => 0
  | p + 1, set => styI (fun q => cmn n a p b q n) (sty n a b p) set (sty n a b p set) (kB n b)
def unN (n a b i j : Nat) : Nat := fb_ct (fun j => decide (ks n a i = ks n a j) != decide (ks n b i = ks n b j)) j
/-- how many pairs disagree -/
def unl (n a b : Nat) (i : Nat) : Nat := fb_sm (fun i => unN n a b i i) i
theorem c_X8_unlike {h : zw_H} {n a b : Nat} (T : RT h n) (ha : a < kN n) (hb : b < kN n) : zpI 1 mX8_unlike [.ref 56, .int (nI a), .int (nI b)] h (nI (unl n a b n)) := by
  have n1 := T.1
  have n2 := T.2.1
  have h57 := T.2.2.1
  refine zcI_of rfl pn_X8 (fun _ => Nat.le_of_ble_eq_true rfl) rfl (rX8_unlike_0 ?_)
  generalize hr : nI (unl n a b n) = res
  refine lp_up (P := fun i => zwI 1 mX8_unlike (fun x h' => x = res ∧ h' = h) 5 [(0, .ref 56), (1, .int (nI a)), (2, .int (nI b)), (3, .int (nI (unl n a b i))), (4, .int (nI i))] [] h) (N := n) ?_ ?_ 0 (by omega)
  · exact rX8_unlike_5 ⟨fun _ => ⟨hr, rfl⟩, fun c => absurd (by rw [h57]; exact nI_le (Nat.le_refl _) (by omega)) c⟩
  · intro i hi ih
    rw [unl, fb_sm_succ] at ih
    refine rX8_unlike_5 ⟨fun c => ?_, fun _ => ?_⟩
    · rw [h57] at c
      have := zle c
      omega
    refine lp_up (P := fun j => zwI 1 mX8_unlike (fun x h' => x = res ∧ h' = h) 19 [(0, .ref 56), (1, .int (nI a)), (2, .int (nI b)), (3, .int (nI (unl n a b i + unN n a b i j))), (4, .int (nI i)), (5, .int (nI j))] [] h) (N := i) ?_ ?_ 0 (by omega)
    · refine rX8_unlike_19 ⟨fun _ => ?_, fun c => absurd (nI_le (Nat.le_refl _) (by omega)) c⟩
      rw [nI_1]
      exact ih
    · intro j hj ih2
      have k1 := ks_lt n1 n2 ha hi
      have k2 := ks_lt n1 n2 hb hi
      have k3 := ks_lt n1 n2 ha (show j < n by omega)
      have k4 := ks_lt n1 n2 hb (show j < n by omega)
      rw [unN, fb_ct_succ] at ih2
      have hj2 : j < n := by omega
      refine rX8_unlike_19 ⟨fun c => ?_, fun _ => ca (c_X8_at T ha hi) (ca (c_X8_at T ha hj2) ⟨fun c => ca (c_X8_at T hb hi) (ca (c_X8_at T hb hj2) ⟨fun c2 => ⟨fun _ => ?_, fun q => absurd rfl q⟩, fun c2 => ⟨fun q => absurd q (by decide), fun _ => ?_⟩⟩), fun c => ca (c_X8_at T hb hi) (ca (c_X8_at T hb hj2) ⟨fun c2 => ⟨fun q => absurd q (by decide), fun _ => ?_⟩, fun c2 => ⟨fun _ => ?_, fun q => absurd rfl q⟩⟩)⟩)⟩
      · have := zle c
        omega
      · have e1 := zne c
        have e2 := zne c2
        rw [if_neg (by simp [e1, e2])] at ih2
        rw [nI_1, Int32.add_zero]
        exact ih2
      · have e1 := zne c
        have e2 := zeq c2
        rw [if_pos (by simp [e1, e2])] at ih2
        rw [nI_1, nI_1]
        exact ih2
      · have e1 := zeq c
        have e2 := zne c2
        rw [if_pos (by simp [e1, e2])] at ih2
        rw [nI_1, nI_1]
        exact ih2
      · have e1 := zeq c
        have e2 := zeq c2
        rw [if_neg (by simp [e1, e2])] at ih2
        rw [nI_1, Int32.add_zero]
        exact ih2
theorem m_disagreements {h : zw_H} {A : zA} {r s : Int32} (W : RW h A) : zpI 3 mX8_disagreements [.ref 56, .int r, .int s] h (gd (wr2 A.1 r s) (nI (unl A.1.1 (rgt A.1 r) (rgt A.1 s) A.1.1))) := by
  refine zcI_of rfl pn_X8 (fun _ => Nat.le_of_ble_eq_true rfl) rfl (rX8_disagreements_0 (ca (c_X8_wrongOf W.1.1 W.2.2.1) ⟨fun c => ?_, fun c => ⟨(gd_f c).symm, rfl⟩⟩))
  obtain ⟨d1, d2⟩ := wr2_0 c
  obtain ⟨a, a1, a2, a3, a4⟩ := rgt_ok W.1.1 d1
  obtain ⟨b, b1, b2, b3, b4⟩ := rgt_ok W.1.1 d2
  rw [gd_0 c]
  exact ca (c_X8_heldR W.1.1 W.2.2.1 d1) (ca (c_X8_heldR W.1.1 W.2.2.1 d2) (ca (c_X8_unlike W.2.1 a4 b4) ⟨rfl, rfl⟩))
