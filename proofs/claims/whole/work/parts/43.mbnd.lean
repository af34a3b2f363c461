theorem c_X8_puts2 {h : zw_H} {A : zA} {t g : Nat} (W : RW h A) (ht : t < 8) (hg : g < kN A.1.1) : zcI 1 mX8_puts [.ref 56, .int (nI t), .int (nI g)] h (fun x h' => x = nI (kB A.1.1 g) ∧ RW h' (chg A (sReg A.1 t (some g))) ∧ Fr (fun a b => a = 57 ∨ a = 56 ∧ b = 1) h h') := by
  obtain ⟨w1, w2, w3, w4, w5, w6⟩ := W
  have hN := (kN_le w2.1 w2.2.1).1
  refine zcI_of rfl pn_X8 (fun _ => Nat.le_of_ble_eq_true rfl) rfl (rX8_puts_0 (caV (c_X8_begins w3 w5) (fun h1 r1 => ⟨6 + t, ?_, by omega, fun h2 e2 => ⟨g, rfl, by omega, ?_, ?_, ?_⟩⟩)))
  · rw [show (6 : Int32) = nI 6 from rfl, nI_add]
  · rw [e2, zw_sI_n (Or.inl (by decide)), r1.2.1 60 g (by unfold pB; omega)]
    exact w2.2.2.2.2.1 g hg
  · have f2 : Fr (fun a b => a = 57 ∧ b = 6 + t) h1 h2 := Fr.rf.sI e2 ⟨rfl, rfl⟩
    have T1 : RT h1 A.1.1 := w2.fr r1.2 (by unfold pB; omega) (by unfold pB; omega) (fun _ => by unfold pB; omega) (fun _ => by unfold pB; omega)
    have P1 := RP_iff.mp w3
    refine ⟨w1.chg (w1.1.reg hg) w5.2.1, T1.fr f2 (by omega) (by omega) (fun _ => by omega) (fun _ => by omega), RP_iff.mpr (fun c hc => ?_), ?_, r1.1.fr f2 (by omega) (fun _ _ => by omega), (w6.fr r1.2 (by unfold pB; omega) (fun _ => by unfold pB; omega)).fr f2 (by omega) (fun _ => by omega)⟩
    · by_cases hx : c = 6 + t
      · subst hx
        rw [e2, zw_sI_s]
        show _ = pgv _ (6 + t)
        rw [Nat.add_comm]
        show _ = enc1 (if t = t then some g else _)
        rw [if_pos rfl]
        rfl
      · rw [e2, zw_sI_n (Or.inr hx), r1.2.1 57 c (by unfold pB; omega), P1 c hc]
        match c with
        | 0 => rfl
        | 1 => rfl
        | 2 => rfl
        | 3 => rfl
        | 4 => rfl
        | 5 => rfl
        | r + 6 =>
          show enc1 _ = enc1 (if r = t then some g else _)
          rw [if_neg (by omega)]
    · exact (w4.fr r1.2 (fun _ => by unfold pB; omega) (by unfold pB; omega)).fr f2 (fun _ => by omega) (by omega)
  · exact (r1.2.mo (fun a b z => by unfold pB at z; omega)).sI e2 (by omega)
/-- a nearest upper (lower) bound -/
def nbd (s : zS) (a b : Nat) (down : Bool) (z : Nat) : Prop := bnd s a b down z ∧ ∀ w, w < kN s.1 → ¬ (bnd s a b down w ∧ (if down = true then lt s.1 z w else lt s.1 w z))
noncomputable def nbN (s : zS) (a b : Nat) (down : Bool) (z : Nat) : Nat := fb_ct (fun z => dB (nbd s a b down z)) z
noncomputable def nbL (s : zS) (a b : Nat) (down : Bool) (z : Nat) : Option Nat := ls (fun z => dB (nbd s a b down z)) z
theorem c_X8_nearestBounds {h : zw_H} {s : zS} {a b : Nat} {down : Bool} {v : Int32} (T : RT h s.1) (A : RA h s) (ha : a < kN s.1) (hb : b < kN s.1) (hv : v = 0 ↔ down = false) : zcI 3 mX8_nearestBounds [.ref 56, .int (nI a), .int (nI b), .int v] h (fun x h' => x = nI (nbN s a b down (kN s.1)) ∧ Fr (fun a b => a = 56 ∧ b = 10) h h' ∧ ∀ z, nbL s a b down (kN s.1) = some z → h'.1 56 10 = nI z) := by
  have n1 := T.1
  have n2 := T.2.1
  have hN := (kN_le n1 n2).1
  refine zcI_of rfl pn_X8 (fun _ => Nat.le_of_ble_eq_true rfl) rfl (rX8_nearestBounds_0 ?_)
  generalize hQ : (fun (x : Int32) (h' : zw_H) => x = nI (nbN s a b down (kN s.1)) ∧ Fr (fun a b => a = 56 ∧ b = 10) h h' ∧ ∀ z, nbL s a b down (kN s.1) = some z → h'.1 56 10 = nI z) = Q
  refine lp_up (P := fun z => ∀ k, Fr (fun a b => a = 56 ∧ b = 10) h k → (∀ z', nbL s a b down z = some z' → k.1 56 10 = nI z') → zwI 3 mX8_nearestBounds Q 6 [(0, .ref 56), (1, .int (nI a)), (2, .int (nI b)), (3, .int v), (4, .int (nI (nbN s a b down z))), (5, .int (nI z))] [] k) (N := kN s.1) ?_ ?_ 0 (by omega) h Fr.rf (fun _ e => by cases e)
  · intro k fr L
    have T' : RT k s.1 := T.fr fr (by omega) (by omega) (fun _ => by omega) (fun _ => by omega)
    refine rX8_nearestBounds_6 ⟨fun _ => by rw [← hQ]; exact ⟨rfl, fr, L⟩, fun c => absurd (by rw [T'.2.2.2.1]; exact nI_le (Nat.le_refl _) (by omega)) c⟩
  · intro z hz ih k fr L
    have T' : RT k s.1 := T.fr fr (by omega) (by omega) (fun _ => by omega) (fun _ => by omega)
    have A' : RA k s := A.fr fr (fun _ => by omega) (by omega)
    have h4 := T'.2.2.2.1
    refine rX8_nearestBounds_6 ⟨fun c => ?_, fun _ => ca (c_X8_isBound T' A' hz ha hb hv) ?_⟩
    · rw [h4] at c
      have := zle c
      omega
    have no : ¬ nbd s a b down z → ∀ k1, k1 = zw_sI k 56 10 (k.1 56 10) → zwI 3 mX8_nearestBounds Q 6 [(0, .ref 56), (1, .int (nI a)), (2, .int (nI b)), (3, .int v), (4, .int (nI (nbN s a b down z) + 0)), (5, .int (nI z + 1))] [] k1 := fun n k1 e1 => by
      rw [Int32.add_zero, nI_1]
      have e : nbN s a b down (z + 1) = nbN s a b down z := by
        unfold nbN
        rw [fb_ct_succ, if_neg (by rw [dB_f.mpr n]; decide)]
        rfl
      rw [e] at ih
      refine ih k1 (fr.sI e1 ⟨rfl, rfl⟩) (fun z' e' => ?_)
      rw [e1, zw_sI_s]
      refine L z' ?_
      rw [← e']
      unfold nbL
      rw [ls, if_neg (by rw [dB_f.mpr n]; decide)]
    have yes : nbd s a b down z → ∀ k1, k1 = zw_sI k 56 10 (nI z) → zwI 3 mX8_nearestBounds Q 6 [(0, .ref 56), (1, .int (nI a)), (2, .int (nI b)), (3, .int v), (4, .int (nI (nbN s a b down z) + 1)), (5, .int (nI z + 1))] [] k1 := fun n k1 e1 => by
      rw [nI_1, nI_1]
      have e : nbN s a b down (z + 1) = nbN s a b down z + 1 := by
        unfold nbN
        rw [fb_ct_succ, if_pos (dB_t.mpr n)]
      rw [e] at ih
      refine ih k1 (fr.sI e1 ⟨rfl, rfl⟩) (fun z' e' => ?_)
      rw [e1, zw_sI_s]
      unfold nbL at e'
      rw [ls, if_pos (dB_t.mpr n)] at e'
      cases e'
      rfl
    have J0 : ∀ w, (bnd s a b down z ∧ ∀ w', w' < w → ¬ (bnd s a b down w' ∧ (if down = true then lt s.1 z w' else lt s.1 w' z))) ∨ ¬ (bnd s a b down z ∧ ∀ w', w' < w → ¬ (bnd s a b down w' ∧ (if down = true then lt s.1 z w' else lt s.1 w' z))) := fun w => Classical.em _
    have start : bI (bnd s a b down z) = bI (bnd s a b down z ∧ ∀ w', w' < 0 → ¬ (bnd s a b down w' ∧ (if down = true then lt s.1 z w' else lt s.1 w' z))) := bI_iff ⟨fun q => ⟨q, fun _ q => absurd q (by omega)⟩, fun q => q.1⟩
    rw [start]
    refine lp_up (P := fun w => zwI 3 mX8_nearestBounds Q 29 [(0, .ref 56), (1, .int (nI a)), (2, .int (nI b)), (3, .int v), (4, .int (nI (nbN s a b down z))), (5, .int (nI z)), (6, .int (bI (bnd s a b down z ∧ ∀ w', w' < w → ¬ (bnd s a b down w' ∧ (if down = true then lt s.1 z w' else lt s.1 w' z))))), (7, .int (nI w))] [] k) (N := kN s.1) ?_ ?_ 0 (by omega)
    · refine rX8_nearestBounds_29 ⟨fun _ => ⟨fun c => ⟨fun _ => no (bI_0.mp c), fun c2 => absurd c c2⟩, fun c => ⟨fun c2 => absurd c2 c, fun _ => yes (bI_yes c)⟩⟩, fun c => absurd (by rw [h4]; exact nI_le (Nat.le_refl _) (by omega)) c⟩
    · intro w hw ih2
      have out : bI (bnd s a b down z ∧ ∀ w', w' < w → ¬ (bnd s a b down w' ∧ (if down = true then lt s.1 z w' else lt s.1 w' z))) = 0 → ¬ nbd s a b down z := fun c n => bI_0.mp c ⟨n.1, fun w' hw' => n.2 w' (by omega)⟩
      have keep : ¬ bI (bnd s a b down z ∧ ∀ w', w' < w → ¬ (bnd s a b down w' ∧ (if down = true then lt s.1 z w' else lt s.1 w' z))) = 0 → ¬ (bnd s a b down w ∧ (if down = true then lt s.1 z w else lt s.1 w z)) → zwI 3 mX8_nearestBounds Q 29 [(0, .ref 56), (1, .int (nI a)), (2, .int (nI b)), (3, .int v), (4, .int (nI (nbN s a b down z))), (5, .int (nI z)), (6, .int 1), (7, .int (nI w + 1))] [] k := fun c n => by
        rw [nI_1]
        rw [bI_t (p := bnd s a b down z ∧ ∀ w', w' < w + 1 → ¬ (bnd s a b down w' ∧ (if down = true then lt s.1 z w' else lt s.1 w' z))) ⟨(bI_yes c).1, fun w' hw' => ?_⟩] at ih2
        · exact ih2
        · by_cases hx : w' = w
          · rw [hx]; exact n
          · exact (bI_yes c).2 w' (by omega)
      have drop : (bnd s a b down w ∧ (if down = true then lt s.1 z w else lt s.1 w z)) → zwI 3 mX8_nearestBounds Q 29 [(0, .ref 56), (1, .int (nI a)), (2, .int (nI b)), (3, .int v), (4, .int (nI (nbN s a b down z))), (5, .int (nI z)), (6, .int 0), (7, .int (nI w + 1))] [] k := fun n => by
        rw [nI_1]
        rw [bI_f (p := bnd s a b down z ∧ ∀ w', w' < w + 1 → ¬ (bnd s a b down w' ∧ (if down = true then lt s.1 z w' else lt s.1 w' z))) (fun q => q.2 w (by omega) n)] at ih2
        exact ih2
      refine rX8_nearestBounds_29 ⟨fun c => ?_, fun _ => ⟨fun c => ⟨fun _ => ⟨fun _ => no (out c), fun c2 => absurd c c2⟩, fun c2 => absurd c c2⟩, fun c => ca (c_X8_isBound T' A' hw ha hb hv) ⟨fun c2 => keep c (fun q => bI_0.mp c2 q.1), fun c2 => ⟨fun d => ?_, fun d => ?_⟩⟩⟩⟩
      · rw [h4] at c
        have := zle c
        omega
      · have hd := hv.mp d
        subst hd
        refine ca (c_X8_isStrictly T' hw hz) ⟨fun c3 => drop ⟨bI_yes c2, ?_⟩, fun c3 => keep c (fun q => bI_0.mp c3 ?_)⟩
        · simp only [Bool.false_eq_true, if_false]
          exact bI_yes c3
        · have := q.2
          simp only [Bool.false_eq_true, if_false] at this
          exact this
      · have hd : down = true := by
          cases down with
          | true => rfl
          | false => exact absurd (hv.mpr rfl) d
        subst hd
        refine ca (c_X8_isStrictly T' hz hw) ⟨fun c3 => keep c (fun q => bI_0.mp c3 ?_), fun c3 => drop ⟨bI_yes c2, ?_⟩⟩
        · have := q.2
          simp only [if_true] at this
          exact this
        · simp only [if_true]
          exact bI_yes c3
theorem m_bounds {h : zw_H} {A : zA} {r s v : Int32} {down : Bool} (W : RW h A) (hv : v = 0 ↔ down = false) : zcI 4 mX8_bounds [.ref 56, .int r, .int s, .int v] h (opR h (gd (wr2 A.1 r s) (nI (nbN A.1 (rgt A.1 r) (rgt A.1 s) down (kN A.1.1))), A)) := by
  refine zcI_of rfl pn_X8 (fun _ => Nat.le_of_ble_eq_true rfl) rfl (rX8_bounds_0 (ca (c_X8_wrongOf W.1.1 W.2.2.1) ⟨fun c => ?_, fun c => ?_⟩))
  · obtain ⟨d1, d2⟩ := wr2_0 c
    obtain ⟨a, a1, a2, a3, a4⟩ := rgt_ok W.1.1 d1
    obtain ⟨b, b1, b2, b3, b4⟩ := rgt_ok W.1.1 d2
    rw [gd_0 c]
    refine ca (c_X8_heldR W.1.1 W.2.2.1 d1) (ca (c_X8_heldR W.1.1 W.2.2.1 d2) (cr (c_X8_nearestBounds W.2.1 W.2.2.2.1 a4 b4 hv) (fun x k r => ⟨r.1, W.fr (r.2.1.mo (fun a b z => ?_)), r.2.1.mo (fun a b z => ?_)⟩)))
    · unfold pS
      omega
    · unfold pR
      omega
  · rw [gd_f c]
    exact W.same _
noncomputable def oB (A : zA) (r s : Int32) (down : Bool) (t : Int32) : Int32 × zA := match ri 8 t with
  | none => (-1, A)
  | some _ => if wr2 A.1 r s = 0 then (match nbN A.1 (rgt A.1 r) (rgt A.1 s) down (kN A.1.1), nbL A.1 (rgt A.1 r) (rgt A.1 s) down (kN A.1.1) with
    | 1, some z => (nI (ix A.1 z), (oT A 0 t z).2)
    | _, _ => (-3, A)) else (wr2 A.1 r s, A)
theorem nbN_1 {s : zS} {a b : Nat} {down : Bool} (h : nbN s a b down (kN s.1) = 1) : ∃ z, nbL s a b down (kN s.1) = some z ∧ z < kN s.1 ∧ nbd s a b down z := by
  cases hx : nbL s a b down (kN s.1) with
  | some z =>
    have := ls_some hx
    exact ⟨z, rfl, this.1, dB_t.mp this.2.1⟩
  | none =>
    have h2 := ls_none.mp hx
    have h3 := fb_ct_zero.mpr h2
    unfold nbN at h
    rw [h3] at h
    cases h
theorem m_bound {h : zw_H} {A : zA} {r s v t : Int32} {down : Bool} (W : RW h A) (hv : v = 0 ↔ down = false) : zcI 4 mX8_bound [.ref 56, .int r, .int s, .int v, .int t] h (opR h (oB A r s down t)) := by
  have hN := (kN_le W.2.1.1 W.2.1.2.1).1
  unfold oB
  refine zcI_of rfl pn_X8 (fun _ => Nat.le_of_ble_eq_true rfl) rfl (rX8_bound_0 (ca (c_X8_isRegister h t) ⟨fun c => ca (c_X8_wrongOf W.1.1 W.2.2.1) ⟨fun c2 => ?_, fun c2 => ?_⟩, fun c => ?_⟩))
  · obtain ⟨t', t1, rfl⟩ := bI_yes c
    obtain ⟨d1, d2⟩ := wr2_0 c2
    obtain ⟨a, a1, a2, a3, a4⟩ := rgt_ok W.1.1 d1
    obtain ⟨b, b1, b2, b3, b4⟩ := rgt_ok W.1.1 d2
    rw [ri_nI t1 (by omega)]
    dsimp only
    rw [if_pos c2]
    have hle : nbN A.1 (rgt A.1 r) (rgt A.1 s) down (kN A.1.1) ≤ kN A.1.1 := fb_ct_le _ _
    refine ca (c_X8_heldR W.1.1 W.2.2.1 d1) (ca (c_X8_heldR W.1.1 W.2.2.1 d2) (cr (c_X8_nearestBounds W.2.1 W.2.2.2.1 a4 b4 hv) (fun x k rr => ?_)))
    obtain ⟨x1, x2, x3⟩ := rr
    subst x1
    have W1 : RW k A := W.fr (x2.mo (fun a b z => by unfold pS; omega))
    have F1 : Fr pR h k := x2.mo (fun a b z => by unfold pR; omega)
    refine ⟨fun c3 => ?_, fun c3 => ?_⟩
    · have e1 := zeq (b := 1) c3
      obtain ⟨z, z1, z2, z3⟩ := nbN_1 e1
      rw [e1, z1, x3 z z1]
      refine cr (c_X8_puts2 W1 t1 z2) (fun y k2 r2 => ⟨z, ?_, by omega, ?_, ?_, ?_⟩)
      · rw [r2.2.2.1 56 10 (by omega)]
        exact x3 z z1
      · rw [r2.2.1.2.2.2.1.1 z z2]
        exact if_pos z3.1.1
      · show RW k2 (oT A 0 (nI t') z).2
        rw [oT_0 t1]
        exact r2.2.1
      · exact F1.tr (r2.2.2.mo (fun a b z => by unfold pR; omega))
    · have e1 : nbN A.1 (rgt A.1 r) (rgt A.1 s) down (kN A.1.1) ≠ 1 := fun z => c3 (by rw [z]; rfl)
      have e2 : (match nbN A.1 (rgt A.1 r) (rgt A.1 s) down (kN A.1.1), nbL A.1 (rgt A.1 r) (rgt A.1 s) down (kN A.1.1) with
        | 1, some z => (nI (ix A.1 z), (oT A 0 (nI t') z).2)
        | _, _ => (-3, A)) = ((-3, A) : Int32 × zA) := by
        generalize nbN A.1 (rgt A.1 r) (rgt A.1 s) down (kN A.1.1) = m at e1
        split
        · exact absurd rfl e1
        · rfl
      rw [e2]
      exact ⟨rfl, W1, F1⟩
  · obtain ⟨t', t1, rfl⟩ := bI_yes c
    rw [ri_nI t1 (by omega)]
    dsimp only
    rw [if_neg c2]
    exact W.same _
  · rw [(ri_none (by omega)).mpr (bI_0.mp c)]
    exact W.same _
