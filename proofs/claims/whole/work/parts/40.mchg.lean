/-- which element and register faults: what is known when all is in range -/
theorem wrE_nI {s : zS} {r : Int32} {x y : Nat} (hn : s.1 ≤ 6) (hx : x < s.1) (hy : y < s.1) : wrE s r (nI x) (nI y) = wr1 s r := by
  unfold wrE
  rw [ri_nI hx (by omega), ri_nI hy (by omega)]
theorem wrE_1 {s : zS} {r i j : Int32} (hn : s.1 ≤ 6) (h : ¬ iR i s.1) : wrE s r i j = -1 := by
  unfold wrE
  rw [(ri_none (by omega)).mpr h]
theorem wrE_2 {s : zS} {r i j : Int32} (hn : s.1 ≤ 6) (h : ¬ iR j s.1) : wrE s r i j = -1 := by
  unfold wrE
  rw [(ri_none (r := j) (by omega)).mpr h]
  cases ri s.1 i <;> rfl
theorem el_nI {n x : Nat} (hn : n ≤ 6) (hx : x < n) : el n (nI x) = x := by
  unfold el
  rw [ri_nI hx (by omega)]
  rfl
theorem wr1_set {s : zS} {k : Nat} (V : SV s) (hk : k < 8) (c : ¬ enc1 (s.2.2.2.2.2.2 k) = -9) : wr1 s (nI k) = 0 := by
  have hs : (s.2.2.2.2.2.2 k).isSome = true := Classical.byContradiction (fun z => c ((reg_9 V hk).mpr z))
  rw [wr1_reg hk, if_pos hs]
theorem wr1_vac {s : zS} {k : Nat} (V : SV s) (hk : k < 8) (c : enc1 (s.2.2.2.2.2.2 k) = -9) : wr1 s (nI k) = -2 := by
  have hs := (reg_9 V hk).mp c
  rw [wr1_reg hk, if_neg hs]
theorem m_isolate {h : zw_H} {A : zA} {r i : Int32} (W : RW h A) : zcI 2 mX8_isolate [.ref 56, .int r, .int i] h (opR h (oT A (wrE A.1 r i i) r (canon A.1.1 (fun e => if e = el A.1.1 i then 6 else ks A.1.1 (rgt A.1 r) e)))) := by
  have n1 := W.2.1.1
  have n2 := W.2.1.2.1
  have h57 := W.2.1.2.2.1
  refine zcI_of rfl pn_X8 (fun _ => Nat.le_of_ble_eq_true rfl) rfl (rX8_isolate_0 (ca (c_X8_isRegister h r) ⟨fun c => ?_, fun c => ca (c_X8_isElement h57 n1 n2) ⟨fun c2 => ?_, fun c2 => ?_⟩⟩))
  · rw [oT_bad (bI_0.mp c)]
    exact W.same _
  · obtain ⟨k, hk, rfl⟩ := bI_yes c
    obtain ⟨x, hx, rfl⟩ := bI_yes c2
    rw [wrE_nI n2 hx hx, el_nI n2 hx]
    refine ca (c_X8_held W.2.2.1 hk) ⟨fun c4 => ?_, fun c4 => ?_⟩
    · have d1 := wr1_set W.1.1 hk c4
      obtain ⟨a, a1, a2, a3, a4⟩ := rgt_ok W.1.1 d1
      rw [d1]
      refine ca (c_X8_heldR W.1.1 W.2.2.1 d1) (caV (c_X8_takes W.2.1 a4) (fun k1 r1 => ⟨x, rfl, by omega, fun k2 e2 => ?_⟩))
      have W1 := W.now r1.2
      have f2 : Fr (fun a _ => a = 62) h k2 := r1.2.sI e2 rfl
      have W2 := W.now f2
      have v : ∀ e, e < A.1.1 → k2.1 62 e = nI (if e = x then 6 else ks A.1.1 (rgt A.1 (nI k)) e) := fun e he => by
        by_cases hx : e = x
        · subst hx
          rw [e2, zw_sI_s, if_pos rfl]
          rfl
        · rw [e2, zw_sI_n (Or.inr hx), if_neg hx]
          exact r1.1 e he
      refine m_numputs (fun e => if e = x then 6 else ks A.1.1 (rgt A.1 (nI k)) e) W2 (f2.mo (fun a b z => by unfold pR; omega)) hk (fun i j hj hi => ?_)
      have i1 := ks_lt n1 n2 a4 hi
      have i2 := ks_lt n1 n2 a4 (show j < A.1.1 by omega)
      rw [v i hi, v j (by omega), nI_eq (by split <;> omega) (by split <;> omega)]
    · rw [wr1_vac W.1.1 hk c4, oT_f ⟨k, hk, rfl⟩ (by decide)]
      exact W.same _
  · have e := wrE_1 (r := r) (j := i) n2 (bI_0.mp c2)
    rw [oT_f' (by rw [e]; decide) (Or.inr e), e]
    exact W.same _
/-- another partition comes into a register: whether it's unlike -/
noncomputable def oC (A : zA) (f r : Int32) (g : Nat) : Int32 × zA := if f = 0 then (bI (g ≠ rgt A.1 r), (oT A 0 r g).2) else (f, A)
theorem oC_f {A : zA} {f r : Int32} {g : Nat} (h : f ≠ 0) : oC A f r g = (f, A) := if_neg h
theorem c_X8_changes {h h1 : zw_H} {A : zA} {r : Int32} {g : Nat} (W : RW h1 A) (F : Fr pR h h1) (d1 : wr1 A.1 r = 0) (hg : g < kN A.1.1) : zcI 2 mX8_changes [.ref 56, .int r, .int (nI g)] h1 (opR h (oC A 0 r g)) := by
  have hN := (kN_le W.2.1.1 W.2.1.2.1).1
  obtain ⟨a, a1, a2, a3, a4⟩ := rgt_ok W.1.1 d1
  have e : oC A 0 r g = (bI (g ≠ rgt A.1 r), chg A (sReg A.1 a (some g))) := by
    unfold oC
    rw [if_pos rfl, a2, oT_0 a1]
  refine zcI_of rfl pn_X8 (fun _ => Nat.le_of_ble_eq_true rfl) rfl (rX8_changes_0 (ca (c_X8_heldR W.1.1 W.2.2.1 d1) ?_))
  rw [e]
  rw [show (Value.int r) = .int (nI a) by rw [← a2]]
  refine cr (c_X8_puts W a1 hg) (fun x h2 r2 => ⟨fun c => ⟨?_, r2.2.1, F.tr r2.2.2⟩, fun c => ⟨?_, r2.2.1, F.tr r2.2.2⟩⟩)
  · exact (bI_f (fun z => z (zeq c))).symm
  · exact (bI_t (fun z => c (by rw [z]))).symm
/-- the row now as a partition comes in place of another one -/
theorem m_numchg {α : Type} {h h1 : zw_H} {A : zA} {r : Int32} (X : Nat → α) (W : RW h1 A) (F : Fr pR h h1) (d1 : wr1 A.1 r = 0) (hx : ∀ i j, j < i → i < A.1.1 → (h1.1 62 i = h1.1 62 j ↔ X i = X j)) : ∃ q : Int32 → zw_H → Prop, zcI 1 mX8_numberOf [.ref 56] h1 q ∧ ∀ (x : Int32) (h2 : zw_H), q x h2 → ∃ q2 : Int32 → zw_H → Prop, zcI 2 mX8_changes [.ref 56, .int r, .int x] h2 q2 ∧ ∀ (x2 : Int32) (h3 : zw_H), q2 x2 h3 → opR h (oC A 0 r (canon A.1.1 X)) x2 h3 := by
  obtain ⟨g1, g2⟩ := canon_spec X W.2.1.1 W.2.1.2.1
  exact ca (c_X8_numberOf W.2.1 g1 (fun i j hj hi => (hx i j hj hi).trans (g2 i j hi (by omega)))) (cr (c_X8_changes W F d1 g1) (fun _ _ z => z))
theorem m_swap {h : zw_H} {A : zA} {r i j : Int32} (W : RW h A) : zcI 3 mX8_swap [.ref 56, .int r, .int i, .int j] h (opR h (oC A (wrE A.1 r i j) r (canon A.1.1 (fun e => ks A.1.1 (rgt A.1 r) (if e = el A.1.1 i then el A.1.1 j else if e = el A.1.1 j then el A.1.1 i else e))))) := by
  have n1 := W.2.1.1
  have n2 := W.2.1.2.1
  have h57 := W.2.1.2.2.1
  refine zcI_of rfl pn_X8 (fun _ => Nat.le_of_ble_eq_true rfl) rfl (rX8_swap_0 (ca (c_X8_isRegister h r) ⟨fun c => ?_, fun c => ca (c_X8_isElement h57 n1 n2) ⟨fun c2 => ?_, fun c2 => ca (c_X8_isElement h57 n1 n2) ⟨fun c3 => ?_, fun c3 => ?_⟩⟩⟩))
  · have e : wrE A.1 r i j = -1 := by
      unfold wrE
      rw [wr1_bad (bI_0.mp c)]
      cases ri A.1.1 i <;> cases ri A.1.1 j <;> rfl
    rw [oC_f (by rw [e]; decide), e]
    exact W.same _
  · have e := wrE_1 (r := r) (j := j) n2 (bI_0.mp c2)
    rw [oC_f (by rw [e]; decide), e]
    exact W.same _
  · obtain ⟨k, hk, rfl⟩ := bI_yes c
    obtain ⟨x, hx, rfl⟩ := bI_yes c2
    obtain ⟨y, hy, rfl⟩ := bI_yes c3
    rw [wrE_nI n2 hx hy, el_nI n2 hx, el_nI n2 hy]
    refine ca (c_X8_held W.2.2.1 hk) ⟨fun c4 => ?_, fun c4 => ?_⟩
    · have d1 := wr1_set W.1.1 hk c4
      obtain ⟨a, a1, a2, a3, a4⟩ := rgt_ok W.1.1 d1
      rw [d1]
      refine ca (c_X8_heldR W.1.1 W.2.2.1 d1) (caV (c_X8_takes W.2.1 a4) (fun k1 r1 => ⟨x, rfl, by omega, y, rfl, by omega, x, rfl, by omega, fun k2 e2 => ⟨y, rfl, by omega, fun k3 e3 => ?_⟩⟩))
      have W1 := W.now r1.2
      have f2 : Fr (fun a _ => a = 62) h k3 := (r1.2.sI e2 rfl).sI e3 rfl
      have W2 := W.now f2
      have v : ∀ e, e < A.1.1 → k3.1 62 e = nI (ks A.1.1 (rgt A.1 (nI k)) (if e = x then y else if e = y then x else e)) := fun e he => by
        by_cases hx2 : e = y
        · subst hx2
          rw [e3, zw_sI_s, r1.1 x hx]
          by_cases hx3 : e = x
          · rw [if_pos hx3, hx3]
          · rw [if_neg hx3, if_pos rfl]
        · rw [e3, zw_sI_n (Or.inr hx2)]
          by_cases hx3 : e = x
          · subst hx3
            rw [if_pos rfl, e2, zw_sI_s, r1.1 y hy]
          · rw [if_neg hx3, if_neg hx2, e2, zw_sI_n (Or.inr hx3), r1.1 e he]
      refine m_numchg (fun e => ks A.1.1 (rgt A.1 (nI k)) (if e = x then y else if e = y then x else e)) W2 (f2.mo (fun a b z => by unfold pR; omega)) d1 (fun i j hj hi => ?_)
      have i1 := ks_lt n1 n2 a4 (show (if i = x then y else if i = y then x else i) < A.1.1 by split; omega; split <;> omega)
      have i2 := ks_lt n1 n2 a4 (show (if j = x then y else if j = y then x else j) < A.1.1 by split; omega; split <;> omega)
      rw [v i hi, v j (by omega), nI_eq (by omega) (by omega)]
    · have e := wr1_vac W.1.1 hk c4
      rw [oC_f (by rw [e]; decide), e]
      exact W.same _
  · have e := wrE_2 (r := r) (i := i) n2 (bI_0.mp c3)
    rw [oC_f (by rw [e]; decide), e]
    exact W.same _
theorem rot_ix : ∀ n, 1 ≤ n → n ≤ 6 → ∀ e, e < n → ((nI e + nI n) - 1) - ((nI e + nI n) - 1) / nI n * nI n = nI ((e + n - 1) % n) := by
  intro n h1 h2 e he
  have : ∀ n, n < 7 → ∀ e, e < 7 → (1 ≤ n ∧ e < n → ((nI e + nI n) - 1) - ((nI e + nI n) - 1) / nI n * nI n = nI ((e + n - 1) % n)) := by decide +kernel
  exact this n (by omega) e (by omega) ⟨h1, he⟩
theorem m_rotate {h : zw_H} {A : zA} {r : Int32} (W : RW h A) : zcI 3 mX8_rotate [.ref 56, .int r] h (opR h (oC A (wr1 A.1 r) r (canon A.1.1 (fun e => ks A.1.1 (rgt A.1 r) ((e + A.1.1 - 1) % A.1.1))))) := by
  have n1 := W.2.1.1
  have n2 := W.2.1.2.1
  have h57 := W.2.1.2.2.1
  refine zcI_of rfl pn_X8 (fun _ => Nat.le_of_ble_eq_true rfl) rfl (rX8_rotate_0 (ca (c_X8_wrong W.1.1 W.2.2.1) ⟨fun c => ?_, fun c => ?_⟩))
  · obtain ⟨a, a1, a2, a3, a4⟩ := rgt_ok W.1.1 c
    rw [h57, c]
    refine lp_up (P := fun e => ∀ k1, Fr (fun a _ => a = 62) h k1 → (∀ e', e' < e → k1.1 62 e' = nI (ks A.1.1 (rgt A.1 r) ((e' + A.1.1 - 1) % A.1.1))) → zwI 3 mX8_rotate (opR h (oC A 0 r (canon A.1.1 (fun e => ks A.1.1 (rgt A.1 r) ((e + A.1.1 - 1) % A.1.1))))) 22 [(0, .ref 56), (1, .int r), (3, .int (nI A.1.1)), (4, .int (nI e))] [] k1) (N := A.1.1) ?_ ?_ 0 (by omega) h Fr.rf (fun _ h => absurd h (by omega))
    · intro k1 fr inv
      have W1 := W.now fr
      refine rX8_rotate_22 ⟨fun _ => m_numchg (fun e => ks A.1.1 (rgt A.1 r) ((e + A.1.1 - 1) % A.1.1)) W1 (fr.mo (fun a b z => by unfold pR; omega)) c (fun i j hj hi => ?_), fun c => absurd (nI_le (Nat.le_refl _) (by omega)) c⟩
      have i1 := ks_lt n1 n2 a4 (show (i + A.1.1 - 1) % A.1.1 < A.1.1 from Nat.mod_lt _ (by omega))
      have i2 := ks_lt n1 n2 a4 (show (j + A.1.1 - 1) % A.1.1 < A.1.1 from Nat.mod_lt _ (by omega))
      rw [inv i hi, inv j (by omega), nI_eq (by omega) (by omega)]
    · intro e he ih k1 fr inv
      have W1 := W.now fr
      refine rX8_rotate_22 ⟨fun z => ?_, fun _ => ca (c_X8_heldR W1.1.1 W1.2.2.1 c) ⟨fun z => ?_, ?_⟩⟩
      · have := zle z
        omega
      · have := zeq (b := 0) z
        omega
      · rw [rot_ix A.1.1 n1 n2 e he]
        refine ca (c_X8_at W1.2.1 a4 (Nat.mod_lt _ (by omega))) ⟨e, rfl, by omega, fun k2 e2 => ?_⟩
        rw [nI_1]
        refine ih k2 (fr.sI e2 rfl) (fun e' he' => ?_)
        by_cases hx : e' = e
        · subst hx
          rw [e2, zw_sI_s]
        · rw [e2, zw_sI_n (Or.inr hx)]
          exact inv e' (by omega)
  · rw [oC_f c]
    exact W.same _
/-- whether each block lies within the elements i + 1 to j, or has none of these -/
def prt (n g i j : Nat) : Prop := ∀ e f, i < e → e ≤ j → f < n → ks n g e = ks n g f → i < f ∧ f ≤ j
theorem c_X8_isParted {h : zw_H} {n g i j : Nat} (T : RT h n) (hg : g < kN n) (hj : j < n) (hij : i < j) : zpI 1 mX8_isParted [.ref 56, .int (nI g), .int (nI i), .int (nI j)] h (bI (prt n g i j)) := by
  obtain ⟨n1, n2, h57, _⟩ := id T
  refine zcI_of rfl pn_X8 (fun _ => Nat.le_of_ble_eq_true rfl) rfl (rX8_isParted_0 ?_)
  generalize hr : bI (prt n g i j) = res
  rw [nI_1]
  refine lp_up (P := fun e => (∀ e', i < e' → e' < e → ∀ f, f < n → ks n g e' = ks n g f → i < f ∧ f ≤ j) → i < e → zwI 1 mX8_isParted (fun x h' => x = res ∧ h' = h) 5 [(0, .ref 56), (1, .int (nI g)), (2, .int (nI i)), (3, .int (nI j)), (4, .int (nI e))] [] h) (N := j + 1) ?_ ?_ (i + 1) (by omega) (fun _ h1 h2 => absurd h1 (by omega)) (by omega)
  · intro inv _
    refine rX8_isParted_5 ⟨fun _ => ⟨?_, rfl⟩, fun c => absurd (nI_lt (by omega) (by omega)) c⟩
    rw [← hr, bI_t]
    intro e f he1 he2 hf z
    exact inv e he1 (by omega) f hf z
  · intro e he ih inv hie
    refine rX8_isParted_5 ⟨fun c => ?_, fun _ => ?_⟩
    · have := zlt c
      omega
    refine lp_up (P := fun f => (∀ f', f' < f → ks n g e = ks n g f' → i < f' ∧ f' ≤ j) → zwI 1 mX8_isParted (fun x h' => x = res ∧ h' = h) 14 [(0, .ref 56), (1, .int (nI g)), (2, .int (nI i)), (3, .int (nI j)), (4, .int (nI e)), (5, .int (nI f))] [] h) (N := n) ?_ ?_ 0 (by omega) (fun _ h1 => absurd h1 (by omega))
    · intro inv2
      refine rX8_isParted_14 ⟨fun _ => ?_, fun c => absurd (by rw [h57]; exact nI_le (Nat.le_refl _) (by omega)) c⟩
      rw [nI_1]
      refine ih (fun e' h1 h2 f hf z => ?_) (by omega)
      by_cases hx : e' = e
      · subst hx
        exact inv2 f hf z
      · exact inv e' h1 (by omega) f hf z
    · intro f hf ih2 inv2
      have i1 := ks_lt n1 n2 hg (show e < n by omega)
      have i2 := ks_lt n1 n2 hg hf
      refine rX8_isParted_14 ⟨fun c => ?_, fun _ => ca (c_X8_at T hg (by omega)) (ca (c_X8_at T hg hf) ⟨fun c => ?_, fun c => ca (c_X8_in h _ _ _) ⟨fun c2 => ?_, fun c2 => ?_⟩⟩)⟩
      · rw [h57] at c
        have := zle c
        omega
      · rw [nI_1]
        refine ih2 (fun f' hf' z => ?_)
        by_cases hx : f' = f
        · subst hx
          exact absurd z (zne c)
        · exact inv2 f' (by omega) z
      · rw [nI_1]
        refine ih2 (fun f' hf' z => ?_)
        by_cases hx : f' = f
        · subst hx
          obtain ⟨y1, y2⟩ := bI_yes c2
          rw [nI_1] at y1
          constructor
          · apply Classical.byContradiction
            intro y
            exact y1 (nI_lt (by omega) (by omega))
          · apply Classical.byContradiction
            intro y
            exact y2 (nI_lt (by omega) (by omega))
        · exact inv2 f' (by omega) z
      · refine ⟨?_, rfl⟩
        rw [← hr, bI_f]
        intro y
        have y := y e f hie (by omega) hf (zeq c)
        refine bI_0.mp c2 ⟨fun z => ?_, fun z => ?_⟩
        · rw [nI_1] at z
          have := zlt z
          omega
        · have := zlt z
          omega
noncomputable def dB (p : Prop) : Bool := by classical exact decide p
theorem dB_t {p : Prop} : dB p = true ↔ p := by classical exact @decide_eq_true_iff p _
theorem dB_f {p : Prop} : dB p = false ↔ ¬ p := by classical exact @decide_eq_false_iff_not p _
/-- the first element from which it is parted -/
noncomputable def fpt (n g j : Nat) : Nat := (fs (fun i => dB (prt n g i j)) 0 j).getD j
/-- BAD, EMPTY, or STATE if two blocks cross -/
def wrX (s : zS) (r : Int32) : Int32 := if wr1 s r = 0 then (if (kF s.1 (rgt s r)).isSome = true then -3 else 0) else wr1 s r
theorem fpt_le (n g j : Nat) : fpt n g j ≤ j := by
  unfold fpt
  cases hx : fs (fun i => dB (prt n g i j)) 0 j with
  | none => exact Nat.le_refl _
  | some b =>
    have := (fs_some hx).2.1
    show b ≤ j
    omega
theorem m_complement {h : zw_H} {A : zA} {r t : Int32} (W : RW h A) : zcI 3 mX8_complement [.ref 56, .int r, .int t] h (opR h (oT A (wrX A.1 r) t (canon A.1.1 (fpt A.1.1 (rgt A.1 r))))) := by
  have n1 := W.2.1.1
  have n2 := W.2.1.2.1
  have h57 := W.2.1.2.2.1
  refine zcI_of rfl pn_X8 (fun _ => Nat.le_of_ble_eq_true rfl) rfl (rX8_complement_0 (ca (c_X8_isRegister h t) ⟨fun c => ca (c_X8_wrong W.1.1 W.2.2.1) ⟨fun c2 => ?_, fun c2 => ?_⟩, fun c => ?_⟩))
  · obtain ⟨k, hk, rfl⟩ := bI_yes c
    obtain ⟨a, a1, a2, a3, a4⟩ := rgt_ok W.1.1 c2
    have e9 := enc2_9 (o := kF A.1.1 (rgt A.1 r)) (fun p q z => by
      have := kF_lt z
      have := kB_le n1 n2 a4
      omega)
    refine ca (c_X8_heldR W.1.1 W.2.2.1 c2) (ca (c_X8_firstCrossing W.2.1 a4) ⟨fun c3 => ?_, fun c3 => ?_⟩)
    · have e0 : wrX A.1 r = 0 := by
        unfold wrX
        rw [if_pos c2, if_neg (none_some.mp (e9.mp c3))]
      rw [e0]
      generalize hg : rgt A.1 r = g
      rw [hg] at a4
      refine lp_up (P := fun j => ∀ k1, Fr (fun a _ => a = 62) h k1 → (∀ e', e' < j → k1.1 62 e' = nI (fpt A.1.1 g e')) → zwI 3 mX8_complement (opR h (oT A 0 (nI k) (canon A.1.1 (fpt A.1.1 g)))) 45 [(0, .ref 56), (2, .int (nI k)), (4, .int (nI g)), (5, .int (nI j))] [] k1) (N := A.1.1) ?_ ?_ 0 (by omega) h Fr.rf (fun _ h => absurd h (by omega))
      · intro k1 fr inv
        have W1 := W.now fr
        refine rX8_complement_45 ⟨fun _ => m_numputs (fpt A.1.1 g) W1 (fr.mo (fun a b z => by unfold pR; omega)) hk (fun i j hj hi => ?_), fun c => absurd (by rw [W1.2.1.2.2.1]; exact nI_le (Nat.le_refl _) (by omega)) c⟩
        have i1 := fpt_le A.1.1 g i
        have i2 := fpt_le A.1.1 g j
        rw [inv i hi, inv j (by omega), nI_eq (by omega) (by omega)]
      · intro j hj ih k1 fr inv
        have W1 := W.now fr
        refine rX8_complement_45 ⟨fun z => ?_, fun _ => ?_⟩
        · rw [W1.2.1.2.2.1] at z
          have := zle z
          omega
        have fin : ∀ i, fpt A.1.1 g j = i → ∀ k2, k2 = zw_sI k1 62 j (nI i) → zwI 3 mX8_complement (opR h (oT A 0 (nI k) (canon A.1.1 (fpt A.1.1 g)))) 45 [(0, .ref 56), (2, .int (nI k)), (4, .int (nI g)), (5, .int (nI j + 1))] [] k2 := fun i hi k2 e2 => by
          rw [nI_1]
          refine ih k2 (fr.sI e2 rfl) (fun e' he' => ?_)
          by_cases hx : e' = j
          · subst hx
            rw [e2, zw_sI_s, hi]
          · rw [e2, zw_sI_n (Or.inr hx)]
            exact inv e' (by omega)
        have fdef : fpt A.1.1 g j = (fs (fun i => dB (prt A.1.1 g i j)) 0 (j - 0)).getD j := rfl
        refine lp_up (P := fun i => fpt A.1.1 g j = (fs (fun i => dB (prt A.1.1 g i j)) i (j - i)).getD j → zwI 3 mX8_complement (opR h (oT A 0 (nI k) (canon A.1.1 (fpt A.1.1 g)))) 59 [(0, .ref 56), (2, .int (nI k)), (4, .int (nI g)), (5, .int (nI j)), (6, .int (nI i))] [] k1) (N := j) ?_ ?_ 0 (by omega) fdef
        · intro e
          refine rX8_complement_59 ⟨fun _ => ⟨j, rfl, by omega, fun k2 e2 => fin j ?_ k2 e2⟩, fun c => absurd (nI_le (Nat.le_refl _) (by omega)) c⟩
          rw [e, fs_end (Nat.le_refl _)]
          rfl
        · intro i hi ih2 e
          refine rX8_complement_59 ⟨fun c => ?_, fun _ => ca (c_X8_isParted W1.2.1 a4 hj hi) ⟨fun c => ⟨j, rfl, by omega, fun k2 e2 => fin i ?_ k2 e2⟩, fun c => ?_⟩⟩
          · have := zle c
            omega
          · rw [e, fs_step hi, if_pos (dB_t.mpr (bI_yes c))]
            rfl
          · rw [nI_1]
            refine ih2 ?_
            rw [e, fs_step hi, if_neg (by rw [dB_f.mpr (bI_0.mp c)]; decide)]
    · have e0 : wrX A.1 r = -3 := by
        unfold wrX
        rw [if_pos c2, if_pos]
        cases hx : kF A.1.1 (rgt A.1 r) with
        | none => exact absurd (e9.mpr hx) c3
        | some _ => rfl
      rw [e0, oT_f ⟨k, hk, rfl⟩ (by decide)]
      exact W.same _
  · have e0 : wrX A.1 r = wr1 A.1 r := if_neg c2
    rw [e0, oT_f (bI_yes c) c2]
    exact W.same _
  · rw [oT_bad (bI_0.mp c)]
    exact W.same _
