noncomputable def exT (s : zS) (V : Nat → Nat) (z w : Nat) : Nat := by classical exact if adm s z = true ∧ adm s w = true ∧ lt s.1 w z then V w else 0
/-- chains go on by a step -/
noncomputable def exV (s : zS) (V : Nat → Nat) (z : Nat) : Nat := fb_sm (exT s V z) (kN s.1)
def sgl (a z : Nat) : Nat := if z = a then 1 else 0
/-- how many chains of k steps from a to z -/
noncomputable def cH (s : zS) (a : Nat) : Nat → Nat → Nat
  | 0 => sgl a
  | k + 1 => exV s (cH s a k)
theorem exT_le {s : zS} {V : Nat → Nat} {z w c : Nat} (h : V w ≤ c) : exT s V z w ≤ c := by
  unfold exT
  split
  · exact h
  · exact Nat.zero_le c
theorem cH_le {s : zS} (h1 : 1 ≤ s.1) (h2 : s.1 ≤ 6) (a : Nat) : ∀ k z, cH s a k z ≤ 203 ^ k
  | 0, z => by
    show sgl a z ≤ 1
    unfold sgl
    split <;> omega
  | k + 1, z => by
    show fb_sm (exT s (cH s a k) z) (kN s.1) ≤ _
    have h := fb_sm_bound (f := exT s (cH s a k) z) (c := 203 ^ k) (n := kN s.1) (fun w _ => exT_le (cH_le h1 h2 a k w))
    have hN := (kN_le h1 h2).1
    rw [Nat.pow_succ, Nat.mul_comm]
    exact Nat.le_trans h (Nat.mul_le_mul_right _ hN)
theorem c_X8_single {h : zw_H} {n a : Nat} (T : RT h n) (ha : a < kN n) : zcV 0 mX8_single [.ref 56, .int (nI a)] h (fun h' => (∀ z, z < kN n → h'.2 63 z = lN (sgl a z)) ∧ Fr (fun a _ => a = 63) h h') := by
  have hN := (kN_le T.1 T.2.1).1
  refine zcV_of rfl pn_X8 (fun _ => Nat.le_of_ble_eq_true rfl) rfl (rX8_single_0 ?_)
  refine lp_up (P := fun z => ∀ k, Fr (fun a _ => a = 63) h k → (∀ z', z' < z → k.2 63 z' = lN (sgl a z')) → zwV 0 mX8_single (fun h' => (∀ z, z < kN n → h'.2 63 z = lN (sgl a z)) ∧ Fr (fun a _ => a = 63) h h') 2 [(0, .ref 56), (1, .int (nI a)), (2, .int (nI z))] [] k) (N := kN n) ?_ ?_ 0 (by omega) h Fr.rf (fun _ h => absurd h (by omega))
  · intro k fr inv
    have T' : RT k n := T.fr fr (by omega) (by omega) (fun _ => by omega) (fun _ => by omega)
    exact rX8_single_2 ⟨fun _ => ⟨inv, fr⟩, fun c => absurd (by rw [T'.2.2.2.1]; exact nI_le (Nat.le_refl _) (by omega)) c⟩
  · intro z hz ih k fr inv
    have T' : RT k n := T.fr fr (by omega) (by omega) (fun _ => by omega) (fun _ => by omega)
    have go : ∀ k2, k2 = zw_sL k 63 z (lN (sgl a z)) → zwV 0 mX8_single (fun h' => (∀ z, z < kN n → h'.2 63 z = lN (sgl a z)) ∧ Fr (fun a _ => a = 63) h h') 2 [(0, .ref 56), (1, .int (nI a)), (2, .int (nI z + 1))] [] k2 := fun k2 e2 => by
      rw [nI_1]
      refine ih k2 (fr.sL e2 rfl) (fun z' hz' => ?_)
      by_cases hx : z' = z
      · rw [hx, e2, zw_sL_s]
      · rw [e2, zw_sL_n (Or.inr hx)]
        exact inv z' (by omega)
    refine rX8_single_2 ⟨fun c => ?_, fun _ => ⟨fun c => ⟨z, rfl, by omega, fun k2 e2 => go k2 ?_⟩, fun c => ⟨z, rfl, by omega, fun k2 e2 => go k2 ?_⟩⟩⟩
    · rw [T'.2.2.2.1] at c
      have := zle c
      omega
    · rw [e2, sgl, if_neg (zne c)]
      rfl
    · rw [e2, sgl, if_pos (zeq c)]
      rfl
theorem c_X8_extendsAll {h : zw_H} {s : zS} {V : Nat → Nat} (T : RT h s.1) (A : RA h s) (hV : ∀ z, z < kN s.1 → h.2 63 z = lN (V z)) : zcV 3 mX8_extendsAll [.ref 56] h (fun h' => (∀ z, z < kN s.1 → h'.2 63 z = lN (exV s V z)) ∧ Fr (fun a _ => a = 63 ∨ a = 64) h h') := by
  have n1 := T.1
  have n2 := T.2.1
  have hN := (kN_le n1 n2).1
  refine zcV_of rfl pn_X8 (fun _ => Nat.le_of_ble_eq_true rfl) rfl (rX8_extendsAll_0 ?_)
  generalize hQ : (fun (h' : zw_H) => (∀ z, z < kN s.1 → h'.2 63 z = lN (exV s V z)) ∧ Fr (fun a _ => a = 63 ∨ a = 64) h h') = Q
  refine lp_up (P := fun z => ∀ k, Fr (fun a _ => a = 64) h k → (∀ z', z' < z → k.2 64 z' = lN (exV s V z')) → zwV 3 mX8_extendsAll Q 2 [(0, .ref 56), (1, .int (nI z))] [] k) (N := kN s.1) ?_ ?_ 0 (by omega) h Fr.rf (fun _ h => absurd h (by omega))
  · intro k fr inv
    have T' : RT k s.1 := T.fr fr (by omega) (by omega) (fun _ => by omega) (fun _ => by omega)
    refine rX8_extendsAll_2 ⟨fun _ => ?_, fun c => absurd (by rw [T'.2.2.2.1]; exact nI_le (Nat.le_refl _) (by omega)) c⟩
    refine lp_up (P := fun z => ∀ k2, Fr (fun a _ => a = 63) k k2 → (∀ z', z' < z → k2.2 63 z' = lN (exV s V z')) → zwV 3 mX8_extendsAll Q 85 [(0, .ref 56), (1, .int (nI z))] [] k2) (N := kN s.1) ?_ ?_ 0 (by omega) k Fr.rf (fun _ h => absurd h (by omega))
    · intro k2 f2 inv2
      have T2 : RT k2 s.1 := T'.fr f2 (by omega) (by omega) (fun _ => by omega) (fun _ => by omega)
      refine rX8_extendsAll_85 ⟨fun _ => ?_, fun c => absurd (by rw [T2.2.2.2.1]; exact nI_le (Nat.le_refl _) (by omega)) c⟩
      rw [← hQ]
      exact ⟨inv2, (fr.mo (fun a b q => Or.inr q)).tr (f2.mo (fun a b q => Or.inl q))⟩
    · intro z hz ih k2 f2 inv2
      have T2 : RT k2 s.1 := T'.fr f2 (by omega) (by omega) (fun _ => by omega) (fun _ => by omega)
      refine rX8_extendsAll_85 ⟨fun c => ?_, fun _ => ⟨z, rfl, by omega, z, rfl, by omega, fun k3 e3 => ?_⟩⟩
      · rw [T2.2.2.2.1] at c
        have := zle c
        omega
      · rw [nI_1]
        refine ih k3 (f2.sL e3 rfl) (fun z' hz' => ?_)
        by_cases hx : z' = z
        · rw [hx, e3, zw_sL_s, f2.2 64 z (by omega)]
          exact inv z hz
        · rw [e3, zw_sL_n (Or.inr hx)]
          exact inv2 z' (by omega)
  · intro z hz ih k fr inv
    have T' : RT k s.1 := T.fr fr (by omega) (by omega) (fun _ => by omega) (fun _ => by omega)
    have mid : ∀ k2, Fr (fun a b => a = 64 ∧ b = z) k k2 → RT k2 s.1 ∧ RA k2 s := fun k2 f2 => ⟨T'.fr f2 (by omega) (by omega) (fun _ => by omega) (fun _ => by omega), (A.fr fr (fun _ => by omega) (by omega)).fr f2 (fun _ => by omega) (by omega)⟩
    have go : ∀ k2, Fr (fun a b => a = 64 ∧ b = z) k k2 → k2.2 64 z = lN (exV s V z) → zwV 3 mX8_extendsAll Q 2 [(0, .ref 56), (1, .int (nI z + 1))] [] k2 := fun k2 f2 e2 => by
      rw [nI_1]
      refine ih k2 (fr.tr (f2.mo (fun a b q => q.1))) (fun z' hz' => ?_)
      by_cases hx : z' = z
      · rw [hx]; exact e2
      · rw [f2.2 64 z' (by omega)]
        exact inv z' (by omega)
    refine rX8_extendsAll_2 ⟨fun c => ?_, fun _ => ⟨z, rfl, by omega, fun k2 e2 => ?_⟩⟩
    · rw [T'.2.2.2.1] at c
      have := zle c
      omega
    have f2 : Fr (fun a b => a = 64 ∧ b = z) k k2 := Fr.rf.sL e2 ⟨rfl, rfl⟩
    have v2 : k2.2 64 z = lN (fb_sm (exT s V z) 0) := by rw [e2, zw_sL_s]; rfl
    refine lp_up (P := fun w => ∀ k3, Fr (fun a b => a = 64 ∧ b = z) k k3 → k3.2 64 z = lN (fb_sm (exT s V z) w) → zwV 3 mX8_extendsAll Q 19 [(0, .ref 56), (1, .int (nI z)), (2, .int (nI w))] [] k3) (N := kN s.1) ?_ ?_ 0 (by omega) k2 f2 v2
    · intro k3 f3 e3
      obtain ⟨T3, A3⟩ := mid k3 f3
      exact rX8_extendsAll_19 ⟨fun _ => go k3 f3 e3, fun c => absurd (by rw [T3.2.2.2.1]; exact nI_le (Nat.le_refl _) (by omega)) c⟩
    · intro w hw ih2 k3 f3 e3
      obtain ⟨T3, A3⟩ := mid k3 f3
      have no : ¬ (adm s z = true ∧ adm s w = true ∧ lt s.1 w z) → ∀ k4, k4 = zw_sL k3 64 z (k3.2 64 z + 0) → zwV 3 mX8_extendsAll Q 19 [(0, .ref 56), (1, .int (nI z)), (2, .int (nI w + 1))] [] k4 := fun n k4 e4 => by
        rw [nI_1]
        refine ih2 k4 (f3.sL e4 ⟨rfl, rfl⟩) ?_
        rw [e4, zw_sL_s, e3, fb_sm_succ, exT, if_neg n, Int64.add_zero, Nat.add_zero]
      refine rX8_extendsAll_19 ⟨fun c => ?_, fun _ => ca (c_X8_isAdmitted T3 A3 hz) ⟨fun c => go k3 f3 ?_, fun c => ⟨z, rfl, by omega, ca (c_X8_isAdmitted T3 A3 hw) ⟨fun c4 => ⟨z, rfl, by omega, no (fun q => bI_0.mp c4 q.2.1)⟩, fun c4 => ca (c_X8_isStrictly T3 hw hz) ⟨fun c5 => ⟨z, rfl, by omega, no (fun q => bI_0.mp c5 q.2.2)⟩, fun c5 => ⟨w, rfl, by omega, z, rfl, by omega, fun k4 e4 => ?_⟩⟩⟩⟩⟩⟩
      · rw [T3.2.2.2.1] at c
        have := zle c
        omega
      · rw [e3]
        have zero : ∀ m, fb_sm (exT s V z) m = 0 := fun m => by
          induction m with
          | zero => rfl
          | succ m ihm => rw [fb_sm_succ, ihm, exT, if_neg (fun q => bI_0.mp c q.1)]
        rw [zero]
        unfold exV
        rw [zero]
      · rw [nI_1]
        refine ih2 k4 (f3.sL e4 ⟨rfl, rfl⟩) ?_
        have hlt : lt s.1 w z := bI_yes c5
        rw [e4, zw_sL_s, e3, f3.2 63 w (by omega), fr.2 63 w (by omega), hV w hw, lN_add, fb_sm_succ, exT, if_pos ⟨bI_yes c, bI_yes c4, hlt⟩]
def fCh (s : zS) (r q k : Int32) : Int32 := match ri 6 k with
  | none => -1
  | some _ => wr3 s r q
theorem wr2_bad1 {s : zS} {r q : Int32} (h : ¬ iR r 8) : wr2 s r q = -1 := by
  unfold wr2
  rw [(ri_none (by omega)).mpr h]
theorem wr2_bad2 {s : zS} {r q : Int32} (h : ¬ iR q 8) : wr2 s r q = -1 := by
  unfold wr2
  rw [(ri_none (r := q) (by omega)).mpr h]
  cases ri 8 r <;> rfl
theorem wr3_f {s : zS} {r q : Int32} (h : ¬ wr2 s r q = 0) : wr3 s r q = wr2 s r q := if_neg h
theorem m_chains {h : zw_H} {A : zA} {r s v : Int32} (W : RW h A) : zcL 4 mX8_chains [.ref 56, .int r, .int s, .int v] h (opL h (gdL (fCh A.1 r s v) (lN (cH A.1 (rgt A.1 r) ((ri 6 v).getD 0) (rgt A.1 s))), A)) := by
  have n1 := W.2.1.1
  have n2 := W.2.1.2.1
  have hN := (kN_le n1 n2).1
  have hin := iR_in (x := v) (n := 6) (m := 5) (by omega) (by omega) rfl
  have bad : fCh A.1 r s v = -1 → opL h (gdL (fCh A.1 r s v) (lN (cH A.1 (rgt A.1 r) ((ri 6 v).getD 0) (rgt A.1 s))), A) (-1) h := fun e => by
    rw [e]
    exact W.sameL _
  have bad2 : wr2 A.1 r s = -1 → fCh A.1 r s v = -1 := fun e => by
    unfold fCh
    rw [wr3_f (by rw [e]; decide), e]
    cases ri 6 v <;> rfl
  refine zcL_of rfl pn_X8 (fun _ => Nat.le_of_ble_eq_true rfl) rfl (rX8_chains_0 (ca (c_X8_isRegister h r) ⟨fun c => bad (bad2 (wr2_bad1 (bI_0.mp c))), fun c => ca (c_X8_isRegister h s) ⟨fun c2 => bad (bad2 (wr2_bad2 (bI_0.mp c2))), fun c2 => ca (c_X8_in h _ _ _) ⟨fun c3 => ?_, fun c3 => bad ?_⟩⟩⟩))
  · obtain ⟨m, hm⟩ := (ri_iR (by omega)).mp (hin.mpr (bI_yes c3))
    obtain ⟨m1, rfl⟩ := ri_some hm
    have ef : fCh A.1 r s (nI m) = wr3 A.1 r s := by
      unfold fCh
      rw [hm]
    rw [ef, hm]
    refine ca (c_X8_wrongAdmitted W.1.1 W.2.1 W.2.2.1 W.2.2.2.1) ⟨fun c4 => ?_, fun c4 => ?_⟩
    · obtain ⟨c5, ad1, ad2⟩ := wr3_0 c4
      obtain ⟨d1, d2⟩ := wr2_0 c5
      obtain ⟨a, a1, a2, a3, a4⟩ := rgt_ok W.1.1 d1
      obtain ⟨b, b1, b2, b3, b4⟩ := rgt_ok W.1.1 d2
      rw [gdL, if_pos c4]
      refine ca (c_X8_heldR W.1.1 W.2.2.1 d1) (caV (c_X8_single W.2.1 a4) (fun k rr => ?_))
      show zwL 4 mX8_chains (opL h (lN (cH A.1 (rgt A.1 r) m (rgt A.1 s)), A)) 56 _ [] k
      refine lp_up (P := fun j => ∀ k2, Fr (fun a _ => a = 63 ∨ a = 64) h k2 → (∀ z, z < kN A.1.1 → k2.2 63 z = lN (cH A.1 (rgt A.1 r) j z)) → zwL 4 mX8_chains (opL h (lN (cH A.1 (rgt A.1 r) m (rgt A.1 s)), A)) 56 [(0, .ref 56), (2, .int s), (3, .int (nI m)), (5, .int (nI j))] [] k2) (N := m) ?_ ?_ 0 (by omega) k (rr.2.mo (fun a b q => Or.inl q)) rr.1
      · intro k2 fr inv
        have W2 : RW k2 A := W.fr (fr.mo (fun a b q => by unfold pS; omega))
        refine rX8_chains_56 ⟨fun _ => ca (c_X8_heldR W2.1.1 W2.2.2.1 d2) ⟨_, rfl, by omega, inv _ b4, W2, fr.mo (fun a b q => by unfold pR; omega)⟩, fun c => absurd (nI_le (Nat.le_refl _) (by omega)) c⟩
      · intro j hj ih k2 fr inv
        have W2 : RW k2 A := W.fr (fr.mo (fun a b q => by unfold pS; omega))
        refine rX8_chains_56 ⟨fun c => ?_, fun _ => caV (c_X8_extendsAll W2.2.1 W2.2.2.2.1 inv) (fun k3 r3 => ?_)⟩
        · have := zle c
          omega
        · rw [nI_1]
          exact ih k3 (fr.tr r3.2) r3.1
    · rw [gdL, if_neg c4]
      exact W.sameL _
  · unfold fCh
    rw [(ri_none (by omega)).mpr (fun q => bI_0.mp c3 (hin.mp q))]
noncomputable def mxF (s : zS) (a : Nat) : Nat → Nat → Int64
  | 0, _ => 0
  | f + 1, z => by classical exact if z = a then 1 else sL (fun w => if cov s w z then mxF s a f w else 0) (kN s.1)
theorem mxF_eq {s : zS} {a : Nat} (h1 : 1 ≤ s.1) (h2 : s.1 ≤ 6) : ∀ f f' z, z < kN s.1 → s.1 - kB s.1 z < f → s.1 - kB s.1 z < f' → mxF s a f z = mxF s a f' z
  | 0, _, _, _, h, _ => absurd h (by omega)
  | _ + 1, 0, _, _, _, h => absurd h (by omega)
  | f + 1, f' + 1, z, hz, hf, hf' => by
    classical
    rw [mxF, mxF]
    have e : sL (fun w => if cov s w z then mxF s a f w else 0) (kN s.1) = sL (fun w => if cov s w z then mxF s a f' w else 0) (kN s.1) := sL_cong fun w hw => by
      by_cases hx : cov s w z
      · have hk := kB_lt h1 h2 hw hz hx.2.2.1
        have hk2 := kB_le h1 h2 hw
        rw [if_pos hx, if_pos hx, mxF_eq h1 h2 f f' w hw (by omega) (by omega)]
      · rw [if_neg hx, if_neg hx]
    rw [e]
/-- how many maximal chains from a -/
noncomputable def mx (s : zS) (a z : Nat) : Int64 := mxF s a 7 z
noncomputable def mxT (s : zS) (a z w : Nat) : Int64 := by classical exact if cov s w z then mx s a w else 0
theorem mx_eq {s : zS} {a z : Nat} (h1 : 1 ≤ s.1) (h2 : s.1 ≤ 6) (hz : z < kN s.1) : (z = a → mx s a z = 1) ∧ (z ≠ a → mx s a z = sL (mxT s a z) (kN s.1)) := by
  classical
  unfold mx
  rw [mxF]
  refine ⟨fun e => if_pos e, fun e => ?_⟩
  rw [if_neg e]
  have e3 : sL (fun w => if cov s w z then mxF s a 6 w else 0) (kN s.1) = sL (mxT s a z) (kN s.1) := sL_cong fun w hw => by
    unfold mxT mx
    by_cases hx : cov s w z
    · have hk := kB_lt h1 h2 hw hz hx.2.2.1
      have hk2 := kB_le h1 h2 hw
      have hk3 := kB_le h1 h2 hz
      rw [if_pos hx, if_pos hx, mxF_eq h1 h2 6 7 w hw (by omega) (by omega)]
    · rw [if_neg hx, if_neg hx]
  rw [e3]
theorem m_maximalChains {h : zw_H} {A : zA} {r s : Int32} (W : RW h A) : zcL 4 mX8_maximalChains [.ref 56, .int r, .int s] h (opL h (gdL (wr3 A.1 r s) (mx A.1 (rgt A.1 r) (rgt A.1 s)), A)) := by
  have n1 := W.2.1.1
  have n2 := W.2.1.2.1
  have hN := (kN_le n1 n2).1
  refine zcL_of rfl pn_X8 (fun _ => Nat.le_of_ble_eq_true rfl) rfl (rX8_maximalChains_0 (ca (c_X8_wrongAdmitted W.1.1 W.2.1 W.2.2.1 W.2.2.2.1) ⟨fun c => ?_, fun c => ?_⟩))
  · obtain ⟨c2, ad1, ad2⟩ := wr3_0 c
    obtain ⟨d1, d2⟩ := wr2_0 c2
    obtain ⟨a, a1, a2, a3, a4⟩ := rgt_ok W.1.1 d1
    obtain ⟨b, b1, b2, b3, b4⟩ := rgt_ok W.1.1 d2
    rw [gdL, if_pos c]
    refine ca (c_X8_heldR W.1.1 W.2.2.1 d1) (caV (c_X8_single W.2.1 a4) (fun k rr => ?_))
    generalize hQ : opL h (mx A.1 (rgt A.1 r) (rgt A.1 s), A) = Q
    refine lp_up (P := fun g => ∀ k, Fr (fun a _ => a = 63) h k → (∀ z, z < kN A.1.1 → k.2 63 z = if A.1.1 - kB A.1.1 z < g then mx A.1 (rgt A.1 r) z else lN (sgl (rgt A.1 r) z)) → zwL 4 mX8_maximalChains Q 26 [(0, .ref 56), (1, .int r), (2, .int s), (4, .int (nI g))] [] k) (N := 6) ?_ ?_ 0 (by omega) k rr.2 (fun z hz => by rw [if_neg (by omega)]; exact rr.1 z hz)
    · intro k fr inv
      have W2 : RW k A := W.fr (fr.mo (fun a b q => by unfold pS; omega))
      refine rX8_maximalChains_26 ⟨fun _ => ca (c_X8_heldR W2.1.1 W2.2.2.1 d2) ⟨_, rfl, by omega, ?_⟩, fun c => absurd (by decide) c⟩
      rw [← hQ]
      refine ⟨?_, W2, fr.mo (fun a b q => by unfold pR; omega)⟩
      have hB := kB_le n1 n2 b4
      rw [inv _ b4, if_pos (by omega)]
    · intro g hg ih k fr inv
      refine rX8_maximalChains_26 ⟨fun c => ?_, fun _ => ?_⟩
      · have := zle (a := 6) c
        omega
      refine lp_up (P := fun z => ∀ k, Fr (fun a _ => a = 63) h k → (∀ z', z' < kN A.1.1 → k.2 63 z' = if A.1.1 - kB A.1.1 z' < g ∨ A.1.1 - kB A.1.1 z' = g ∧ z' < z then mx A.1 (rgt A.1 r) z' else lN (sgl (rgt A.1 r) z')) → zwL 4 mX8_maximalChains Q 36 [(0, .ref 56), (1, .int r), (2, .int s), (4, .int (nI g)), (5, .int (nI z))] [] k) (N := kN A.1.1) ?_ ?_ 0 (by omega) k fr (fun z hz => ?_)
      · intro k fr inv
        have W2 : RW k A := W.fr (fr.mo (fun a b q => by unfold pS; omega))
        refine rX8_maximalChains_36 ⟨fun _ => ?_, fun c => absurd (by rw [W2.2.1.2.2.2.1]; exact nI_le (Nat.le_refl _) (by omega)) c⟩
        rw [nI_1]
        refine ih k fr (fun z hz => ?_)
        rw [inv z hz]
        by_cases hx : A.1.1 - kB A.1.1 z < g + 1
        · rw [if_pos hx, if_pos (by omega)]
        · rw [if_neg hx, if_neg (by omega)]
      · intro z hz ih2 k fr inv
        have W2 : RW k A := W.fr (fr.mo (fun a b q => by unfold pS; omega))
        have hB := kB_le n1 n2 hz
        obtain ⟨m1, m2⟩ := mx_eq (a := rgt A.1 r) n1 n2 hz
        have go : ∀ k2, Fr (fun a b => a = 63 ∧ b = z) k k2 → (k2.2 63 z = if A.1.1 - kB A.1.1 z < g ∨ A.1.1 - kB A.1.1 z = g then mx A.1 (rgt A.1 r) z else lN (sgl (rgt A.1 r) z)) → zwL 4 mX8_maximalChains Q 36 [(0, .ref 56), (1, .int r), (2, .int s), (4, .int (nI g)), (5, .int (nI z + 1))] [] k2 := fun k2 f2 e2 => by
          rw [nI_1]
          refine ih2 k2 (fr.tr (f2.mo (fun a b q => q.1))) (fun z' hz' => ?_)
          by_cases hx : z' = z
          · subst hx
            rw [e2]
            by_cases hy : A.1.1 - kB A.1.1 z' < g ∨ A.1.1 - kB A.1.1 z' = g
            · rw [if_pos hy, if_pos (by omega)]
            · rw [if_neg hy, if_neg (by omega)]
          · rw [f2.2 63 z' (by omega), inv z' hz']
            by_cases hy : A.1.1 - kB A.1.1 z' < g ∨ A.1.1 - kB A.1.1 z' = g ∧ z' < z
            · rw [if_pos hy, if_pos (by omega)]
            · rw [if_neg hy, if_neg (by omega)]
        refine rX8_maximalChains_36 ⟨fun c => ?_, fun _ => ?_⟩
        · rw [W2.2.1.2.2.2.1] at c
          have := zle c
          omega
        have h7 : ∀ k3, Fr (fun a b => a = 63 ∧ b = z) k k3 → RW k3 A := fun k3 f3 => W2.fr (f3.mo (fun a b q => by unfold pS; omega))
        -- not of this rank, or the first one: at once
        have at0 : (¬ (A.1.1 - kB A.1.1 z = g) ∨ z = rgt A.1 r) → zwL 4 mX8_maximalChains Q 48 [(0, .ref 56), (1, .int r), (2, .int s), (4, .int (nI g)), (5, .int (nI z)), (6, .int (nI 0))] [] k := fun q => by
          have fin : k.2 63 z = if A.1.1 - kB A.1.1 z < g ∨ A.1.1 - kB A.1.1 z = g then mx A.1 (rgt A.1 r) z else lN (sgl (rgt A.1 r) z) := by
            rw [inv z hz]
            rcases q with q | q
            · by_cases hy : A.1.1 - kB A.1.1 z < g
              · rw [if_pos (Or.inl hy), if_pos (Or.inl hy)]
              · rw [if_neg (by omega), if_neg (by omega)]
            · have e1 : lN (sgl (rgt A.1 r) z) = mx A.1 (rgt A.1 r) z := by rw [m1 q, sgl, if_pos q]; rfl
              rw [e1]
              split <;> split <;> rfl
          refine rX8_maximalChains_48 ⟨fun _ => go k Fr.rf fin, fun _ => ca (c_X8_rank W2.2.1 hz) ⟨fun _ => go k Fr.rf fin, fun c => ca (c_X8_heldR W2.1.1 W2.2.2.1 d1) ⟨fun _ => go k Fr.rf fin, fun c2 => ?_⟩⟩⟩
          rcases q with q | q
          · exact absurd (zeq c) q
          · exact absurd (by rw [q]) c2
        by_cases hq : ¬ (A.1.1 - kB A.1.1 z = g) ∨ z = rgt A.1 r
        · exact at0 hq
        · have er : A.1.1 - kB A.1.1 z = g := Classical.byContradiction (fun q => hq (Or.inl q))
          have hza : z ≠ rgt A.1 r := fun q => hq (Or.inr q)
          have v0 : k.2 63 z = sL (mxT A.1 (rgt A.1 r) z) 0 := by
            rw [inv z hz, if_neg (by omega), sgl, if_neg hza]
            rfl
          refine lp_up (P := fun w => ∀ k3, Fr (fun a b => a = 63 ∧ b = z) k k3 → k3.2 63 z = sL (mxT A.1 (rgt A.1 r) z) w → zwL 4 mX8_maximalChains Q 48 [(0, .ref 56), (1, .int r), (2, .int s), (4, .int (nI g)), (5, .int (nI z)), (6, .int (nI w))] [] k3) (N := kN A.1.1) ?_ ?_ 0 (by omega) k Fr.rf v0
          · intro k3 f3 e3
            have W3 := h7 k3 f3
            refine rX8_maximalChains_48 ⟨fun _ => go k3 f3 ?_, fun c => absurd (by rw [W3.2.1.2.2.2.1]; exact nI_le (Nat.le_refl _) (by omega)) c⟩
            rw [if_pos (Or.inr er), e3, m2 hza]
          · intro w hw ih3 k3 f3 e3
            have W3 := h7 k3 f3
            have vw : cov A.1 w z → k3.2 63 w = mx A.1 (rgt A.1 r) w := fun q => by
              have hk := kB_lt n1 n2 hw hz q.2.2.1
              have hk2 := kB_le n1 n2 hw
              have hwz : w ≠ z := q.2.2.1.2
              rw [f3.2 63 w (by omega), inv w hw, if_pos (Or.inl (by omega))]
            have no : mxT A.1 (rgt A.1 r) z w = 0 → ∀ k4, k4 = zw_sL k3 63 z (k3.2 63 z + 0) → zwL 4 mX8_maximalChains Q 48 [(0, .ref 56), (1, .int r), (2, .int s), (4, .int (nI g)), (5, .int (nI z)), (6, .int (nI w + 1))] [] k4 := fun n k4 e4 => by
              rw [nI_1]
              refine ih3 k4 (f3.sL e4 ⟨rfl, rfl⟩) ?_
              rw [e4, zw_sL_s, e3, sL, n]
            refine rX8_maximalChains_48 ⟨fun c => ?_, fun _ => ca (c_X8_rank W3.2.1 hz) ⟨fun c => absurd (by rw [er]) c, fun _ => ca (c_X8_heldR W3.1.1 W3.2.2.1 d1) ⟨fun c => absurd (zeq c) hza, fun _ => ⟨z, rfl, by omega, w, rfl, by omega, fun c => ⟨z, rfl, by omega, no ?_⟩, fun c => ca (c_X8_isCover W3.2.1 W3.2.2.2.1 hw hz) ⟨fun c2 => ⟨z, rfl, by omega, no ?_⟩, fun c2 => ⟨w, rfl, by omega, z, rfl, by omega, fun k4 e4 => ?_⟩⟩⟩⟩⟩⟩
            · rw [W3.2.1.2.2.2.1] at c
              have := zle c
              omega
            · have c' := (lg_cmp_eq _ _).mp c
              unfold mxT
              split
              · rename_i hc
                rw [← vw hc]
                exact c'
              · rfl
            · unfold mxT
              rw [if_neg (bI_0.mp c2)]
            · rw [nI_1]
              refine ih3 k4 (f3.sL e4 ⟨rfl, rfl⟩) ?_
              rw [e4, zw_sL_s, e3, vw (bI_yes c2), sL, mxT, if_pos (bI_yes c2)]
      · rw [inv z hz]
        by_cases hy : A.1.1 - kB A.1.1 z < g
        · rw [if_pos hy, if_pos (by omega)]
        · rw [if_neg hy, if_neg (by omega)]
  · rw [gdL, if_neg c]
    exact W.sameL _
/-- the most steps of a chain from a to b -/
noncomputable def hgt (s : zS) (a b m : Nat) : Option Nat := ls (fun k => decide (cH s a k b ≠ 0)) m
theorem m_height {h : zw_H} {A : zA} {r s : Int32} (W : RW h A) : zcI 4 mX8_height [.ref 56, .int r, .int s] h (opR h (gd (wr3 A.1 r s) (enc1 (hgt A.1 (rgt A.1 r) (rgt A.1 s) 6)), A)) := by
  have n1 := W.2.1.1
  have n2 := W.2.1.2.1
  have hN := (kN_le n1 n2).1
  refine zcI_of rfl pn_X8 (fun _ => Nat.le_of_ble_eq_true rfl) rfl (rX8_height_0 (ca (c_X8_wrongAdmitted W.1.1 W.2.1 W.2.2.1 W.2.2.2.1) ⟨fun c => ?_, fun c => ?_⟩))
  · obtain ⟨c2, ad1, ad2⟩ := wr3_0 c
    obtain ⟨d1, d2⟩ := wr2_0 c2
    obtain ⟨a, a1, a2, a3, a4⟩ := rgt_ok W.1.1 d1
    obtain ⟨b, b1, b2, b3, b4⟩ := rgt_ok W.1.1 d2
    rw [gd_0 c]
    refine ca (c_X8_heldR W.1.1 W.2.2.1 d1) (caV (c_X8_single W.2.1 a4) (fun k rr => ?_))
    generalize hQ : opR h (enc1 (hgt A.1 (rgt A.1 r) (rgt A.1 s) 6), A) = Q
    refine lp_up (P := fun j => ∀ k2, Fr (fun a _ => a = 63 ∨ a = 64) h k2 → (∀ z, z < kN A.1.1 → k2.2 63 z = lN (cH A.1 (rgt A.1 r) j z)) → zwI 4 mX8_height Q 29 [(0, .ref 56), (2, .int s), (4, .int (enc1 (hgt A.1 (rgt A.1 r) (rgt A.1 s) j))), (5, .int (nI j))] [] k2) (N := 6) ?_ ?_ 0 (by omega) k (rr.2.mo (fun a b q => Or.inl q)) rr.1
    · intro k2 fr inv
      refine rX8_height_29 ⟨fun _ => ?_, fun c => absurd (by decide) c⟩
      rw [← hQ]
      exact ⟨rfl, W.fr (fr.mo (fun a b q => by unfold pS; omega)), fr.mo (fun a b q => by unfold pR; omega)⟩
    · intro j hj ih k2 fr inv
      have W2 : RW k2 A := W.fr (fr.mo (fun a b q => by unfold pS; omega))
      have hc := cH_le n1 n2 (rgt A.1 r) j (rgt A.1 s)
      have hc2 : 203 ^ j ≤ 203 ^ 5 := Nat.pow_le_pow_right (by decide) (by omega)
      have hc3 : cH A.1 (rgt A.1 r) j (rgt A.1 s) < 2 ^ 63 := Nat.lt_of_le_of_lt (Nat.le_trans hc hc2) (by decide)
      refine rX8_height_29 ⟨fun c => ?_, fun _ => ca (c_X8_heldR W2.1.1 W2.2.2.1 d2) ⟨_, rfl, by omega, fun c => caV (c_X8_extendsAll W2.2.1 W2.2.2.2.1 inv) (fun k3 r3 => ?_), fun c => caV (c_X8_extendsAll W2.2.1 W2.2.2.2.1 inv) (fun k3 r3 => ?_)⟩⟩
      · have := zle (a := 6) c
        omega
      · rw [nI_1]
        have c' := (lg_cmp_eq _ _).mp c
        rw [inv _ b4] at c'
        have c'' := (fb_lN_inj hc3 (by decide)).mp (show _ = lN 0 from c')
        have e : hgt A.1 (rgt A.1 r) (rgt A.1 s) (j + 1) = hgt A.1 (rgt A.1 r) (rgt A.1 s) j := by
          unfold hgt
          rw [ls, if_neg (by simp [c''])]
        rw [e] at ih
        exact ih k3 (fr.tr r3.2) r3.1
      · rw [nI_1]
        have c'' : cH A.1 (rgt A.1 r) j (rgt A.1 s) ≠ 0 := fun q => c ((lg_cmp_eq _ _).mpr (by rw [inv _ b4, q]; rfl))
        have e : hgt A.1 (rgt A.1 r) (rgt A.1 s) (j + 1) = some j := by
          unfold hgt
          rw [ls, if_pos (by simp [c''])]
        rw [e] at ih
        exact ih k3 (fr.tr r3.2) r3.1
  · rw [gd_f c]
    exact W.same _
