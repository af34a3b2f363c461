/-- a new state -/
def s0 (n : Nat) : zS := (n, 126, 126, 0, 0, 0, fun _ => none)
theorem SV.s0 {n : Nat} (h1 : 1 ≤ n) (h2 : n ≤ 6) : SV (s0 n) := ⟨h1, h2, show 126 < 128 by decide, show 126 < 128 by decide, show 0 < 32768 by decide, show 0 < 32768 by decide, show 0 ≤ 1 by decide, fun _ _ _ h => by cases h⟩
def r16 (x : Int32) : Option Nat := if 1 ≤ x.toInt ∧ x.toInt ≤ 6 then some x.toInt.toNat else none
theorem r16_some {k : Nat} {r : Int32} (h : r16 r = some k) : 1 ≤ k ∧ k ≤ 6 ∧ r = nI k := by
  unfold r16 at h
  by_cases hx : 1 ≤ r.toInt ∧ r.toInt ≤ 6
  · rw [if_pos hx] at h
    cases h
    refine ⟨by omega, by omega, ?_⟩
    apply Int32.toInt_inj.mp
    rw [nI_toInt (by omega)]
    omega
  · rw [if_neg hx] at h
    cases h
theorem r16_none {r : Int32} : r16 r = none ↔ ¬ (¬ r < 1 ∧ ¬ 6 < r) := by
  unfold r16
  have e1 : (1 : Int32).toInt = 1 := by decide
  have e6 : (6 : Int32).toInt = 6 := by decide
  rw [Int32.lt_iff_toInt_lt, Int32.lt_iff_toInt_lt, e1, e6]
  by_cases hx : 1 ≤ r.toInt ∧ r.toInt ≤ 6
  · rw [if_pos hx]
    exact ⟨fun h => (by cases h), fun h => absurd (by omega) h⟩
  · rw [if_neg hx]
    exact ⟨fun _ => by omega, fun _ => rfl⟩
theorem r16_yes {r : Int32} (h : ¬ r < 1 ∧ ¬ 6 < r) : ∃ k, r16 r = some k := by
  cases hr : r16 r with
  | none => exact absurd h (r16_none.mp hr)
  | some k => exact ⟨k, rfl⟩
def opR (h : zw_H) (sp : Int32 × zA) : Int32 → zw_H → Prop := fun x h' => x = sp.1 ∧ RW h' sp.2 ∧ Fr pR h h'
def pT (a b : Nat) : Prop := pL a b ∨ pA a b ∨ a = 57 ∧ b < 14
theorem c_X8_starts {h : zw_H} {n : Nat} (h1 : 1 ≤ n) (h2 : n ≤ 6) : zcV 5 mX8_starts [.ref 56, .int (nI n)] h (fun h' => RT h' n ∧ RP h' (s0 n) ∧ RA h' (s0 n) ∧ Fr pT h h') := by
  refine zcV_of rfl pn_X8 (fun _ => Nat.le_of_ble_eq_true rfl) rfl (rX8_starts_0 (fun k1 e1 k2 e2 k3 e3 k4 e4 k5 e5 k6 e6 => ?_))
  have pt : ∀ b, b < 14 → pT 57 b := fun b hb => Or.inr (Or.inr ⟨rfl, hb⟩)
  have F : Fr pT h k6 := (((((Fr.rf.sI e1 (pt _ (by omega))).sI e2 (pt _ (by omega))).sI e3 (pt _ (by omega))).sI e4 (pt _ (by omega))).sI e5 (pt _ (by omega))).sI e6 (pt _ (by omega))
  have v : ∀ c, c < 6 → k6.1 57 c = pgv (s0 n) c := by
    intro c hc
    rcases (show c = 0 ∨ c = 1 ∨ c = 2 ∨ c = 3 ∨ c = 4 ∨ c = 5 by omega) with rfl | rfl | rfl | rfl | rfl | rfl
    · rw [e6, zw_sI_n (Or.inr (by decide)), e5, zw_sI_n (Or.inr (by decide)), e4, zw_sI_n (Or.inr (by decide)), e3, zw_sI_n (Or.inr (by decide)), e2, zw_sI_n (Or.inr (by decide)), e1, zw_sI_s]; rfl
    · rw [e6, zw_sI_n (Or.inr (by decide)), e5, zw_sI_n (Or.inr (by decide)), e4, zw_sI_n (Or.inr (by decide)), e3, zw_sI_n (Or.inr (by decide)), e2, zw_sI_s]; rfl
    · rw [e6, zw_sI_n (Or.inr (by decide)), e5, zw_sI_n (Or.inr (by decide)), e4, zw_sI_n (Or.inr (by decide)), e3, zw_sI_s]; rfl
    · rw [e6, zw_sI_n (Or.inr (by decide)), e5, zw_sI_n (Or.inr (by decide)), e4, zw_sI_s]; rfl
    · rw [e6, zw_sI_n (Or.inr (by decide)), e5, zw_sI_s]; rfl
    · rw [e6, zw_sI_s]; rfl
  refine lp_up (P := fun r => ∀ k, Fr pT h k → (∀ c, c < 6 + r → k.1 57 c = pgv (s0 n) c) → zwV 5 mX8_starts (fun h' => RT h' n ∧ RP h' (s0 n) ∧ RA h' (s0 n) ∧ Fr pT h h') 46 [(0, .ref 56), (2, .int (nI r))] [] k) (N := 8) ?_ ?_ 0 (by omega) k6 F v
  · intro k fr inv
    refine rX8_starts_46 ⟨fun _ => caV (c_X8_lays h1 h2 (inv 0 (by omega))) (fun k2 r2 => ?_), fun c => absurd (by decide) c⟩
    have P2 : RP k2 (s0 n) := (RP_iff.mpr (fun c hc => inv c (by omega))).fr r2.2 (fun _ => by unfold pL; omega)
    refine caV (c_X8_admits (SV.s0 h1 h2) r2.1 P2) (fun k3 r3 => ?_)
    exact ⟨r2.1.fr r3.2 (by unfold pA; omega) (by unfold pA; omega) (fun _ => by unfold pA; omega) (fun _ => by unfold pA; omega), P2.fr r3.2 (fun _ => by unfold pA; omega), r3.1, (fr.tr (r2.2.mo (fun a b z => Or.inl z))).tr (r3.2.mo (fun a b z => Or.inr (Or.inl z)))⟩
  · intro r hr ih k fr inv
    refine rX8_starts_46 ⟨fun c => ?_, fun _ => ⟨6 + r, ?_, by omega, fun k2 e2 => ?_⟩⟩
    · have := zle (a := 8) c
      omega
    · rw [show (6 : Int32) = nI 6 from rfl, nI_add]
    · rw [nI_1]
      refine ih k2 (fr.sI e2 (pt _ (by omega))) (fun c hc => ?_)
      by_cases hx : c = 6 + r
      · subst hx
        rw [e2, zw_sI_s, Nat.add_comm]
        rfl
      · rw [e2, zw_sI_n (Or.inr hx)]
        exact inv c (by omega)
/-- setSize -/
def oSize (A : zA) (x : Int32) : Int32 × zA := match r16 x with
  | none => (-1, A)
  | some n => (nI A.1.1, chg A (s0 n))
theorem RW.same {h : zw_H} {A : zA} (W : RW h A) (x : Int32) : opR h (x, A) x h := ⟨rfl, W, Fr.rf⟩
theorem m_setSize {h : zw_H} {A : zA} {x : Int32} (W : RW h A) : zcI 6 mX8_setSize [.ref 56, .int x] h (opR h (oSize A x)) := by
  obtain ⟨w1, w2, w3, w4, w5, w6⟩ := id W
  refine zcI_of rfl pn_X8 (fun _ => Nat.le_of_ble_eq_true rfl) rfl (rX8_setSize_0 (ca (c_X8_in h _ _ _) ⟨fun c => ?_, fun c => ?_⟩))
  · obtain ⟨k, hk⟩ := r16_yes (Classical.byContradiction (fun z => c (bI_f z)))
    obtain ⟨k1, k2, rfl⟩ := r16_some hk
    unfold oSize
    rw [hk]
    refine caV (c_X8_begins w3 w5) (fun k3 r3 => caV (c_X8_starts k1 k2) (fun k4 r4 => ⟨?_, ?_, ?_⟩))
    · rw [r3.2.1 57 0 (by unfold pB; omega)]
      exact w3.1
    · refine ⟨w1.chg (SV.s0 k1 k2) w5.2.1, r4.1, r4.2.1, r4.2.2.1, r3.1.fr r4.2.2.2 (by unfold pT pL pA; omega) (fun _ _ => by unfold pT pL pA; omega), ?_⟩
      exact (w6.fr r3.2 (by unfold pB; omega) (fun _ => by unfold pB; omega)).fr r4.2.2.2 (by unfold pT pL pA; omega) (fun _ => by unfold pT pL pA; omega)
    · exact (r3.2.mo (fun a b z => by unfold pB at z; unfold pR; omega)).tr (r4.2.2.2.mo (fun a b z => by unfold pT pL pA at z; unfold pR; omega))
  · unfold oSize
    rw [r16_none.mpr (bI_0.mp c)]
    exact W.same _
/-- one cell of the page now is another one -/
theorem c_X8_sets {h : zw_H} {A : zA} {s' : zS} {w : Nat} {v : Int32} (W : RW h A) (hw : 1 ≤ w) (hw2 : w < 6) (V' : SV s') (hn : s'.1 = A.1.1) (hs : ∀ c, c < 14 → pgv s' c = if c = w then v else pgv A.1 c) : zcI 5 mX8_sets [.ref 56, .int (nI w), .int v] h (fun x h' => x = pgv A.1 w ∧ RW h' (chg A s') ∧ Fr pR h h') := by
  obtain ⟨w1, w2, w3, w4, w5, w6⟩ := id W
  have pg := RP_iff.mp w3
  refine zcI_of rfl pn_X8 (fun _ => Nat.le_of_ble_eq_true rfl) rfl (rX8_sets_0 (caV (c_X8_begins w3 w5) (fun k1 r1 => ⟨w, rfl, by omega, w, rfl, by omega, fun k2 e2 => ?_⟩)))
  have f2 : Fr (fun a b => a = 57 ∧ b = w) k1 k2 := Fr.rf.sI e2 ⟨rfl, rfl⟩
  have T2 : RT k2 A.1.1 := (w2.fr r1.2 (by unfold pB; omega) (by unfold pB; omega) (fun _ => by unfold pB; omega) (fun _ => by unfold pB; omega)).fr f2 (by omega) (by omega) (fun _ => by omega) (fun _ => by omega)
  have P2 : RP k2 s' := RP_iff.mpr (fun c hc => by
    rw [hs c hc]
    by_cases hx : c = w
    · subst hx
      rw [if_pos rfl, e2, zw_sI_s]
    · rw [if_neg hx, e2, zw_sI_n (Or.inr hx), r1.2.1 57 c (by unfold pB; omega)]
      exact pg c hc)
  refine caV (c_X8_admits V' (by rw [hn]; exact T2) P2) (fun k3 r3 => ⟨?_, ⟨w1.chg V' w5.2.1, ?_, P2.fr r3.2 (fun _ => by unfold pA; omega), r3.1, ?_, ?_⟩, ?_⟩)
  · rw [r1.2.1 57 w (by unfold pB; omega)]
    exact pg w (by omega)
  · show RT k3 s'.1
    rw [hn]
    exact T2.fr r3.2 (by unfold pA; omega) (by unfold pA; omega) (fun _ => by unfold pA; omega) (fun _ => by unfold pA; omega)
  · exact (r1.1.fr f2 (by omega) (fun _ _ => by omega)).fr r3.2 (by unfold pA; omega) (fun _ _ => by unfold pA; omega)
  · exact ((w6.fr r1.2 (by unfold pB; omega) (fun _ => by unfold pB; omega)).fr f2 (by omega) (fun _ => by omega)).fr r3.2 (by unfold pA; omega) (fun _ => by unfold pA; omega)
  · exact ((r1.2.mo (fun a b z => by unfold pB at z; unfold pR; omega)).sI e2 (by unfold pR; omega)).tr (r3.2.mo (fun a b z => by unfold pA at z; unfold pR; omega))
/-- a bit set or cleared -/
def sBit (x k : Nat) (on : Bool) : Nat := if on = true then x ||| 2 ^ k else x &&& (2 ^ k ^^^ 4294967295)
theorem sBit_lt {x k m : Nat} {on : Bool} (hx : x < 2 ^ m) (hk : k < m) : sBit x k on < 2 ^ m := by
  unfold sBit
  split
  · exact Nat.or_lt_two_pow hx (Nat.pow_lt_pow_right (by decide) hk)
  · exact Nat.lt_of_le_of_lt Nat.and_le_left hx
theorem and_bit (x k : Nat) : x &&& 2 ^ k = if x.testBit k then 2 ^ k else 0 := by
  apply Nat.eq_of_testBit_eq
  intro i
  rw [Nat.testBit_and, Nat.testBit_two_pow]
  by_cases hx : k = i
  · subst hx
    cases x.testBit k <;> simp
  · cases hb : x.testBit k <;> simp [hx, Nat.testBit_two_pow]
theorem c_X8_setsBit {h : zw_H} {A : zA} {s' : zS} {w b p : Nat} {v : Int32} {on : Bool} (W : RW h A) (hw : 1 ≤ w) (hw2 : w < 6) (V' : SV s') (hn : s'.1 = A.1.1) (hp : pgv A.1 w = nI p) (hp2 : p < 32768) (hb : b < 15) (hv : v = 0 ↔ on = false) (hs : ∀ c, c < 14 → pgv s' c = if c = w then nI (sBit p b on) else pgv A.1 c) : zcI 6 mX8_setsBit [.ref 56, .int (nI w), .int (nI (2 ^ b)), .int v] h (fun x h' => x = nI (if p.testBit b then 1 else 0) ∧ RW h' (chg A s') ∧ Fr pR h h') := by
  obtain ⟨w1, w2, w3, w4, w5, w6⟩ := id W
  have pg := RP_iff.mp w3
  have hw57 := pg w (by omega)
  have h2b : 2 ^ b < 2 ^ 15 := Nat.pow_lt_pow_right (by decide) hb
  have test : ∀ (h2 : zw_H), RW h2 (chg A s') → Fr pR h h2 → ((pgv A.1 w &&& nI (2 ^ b)) = 0 → ((0 : Int32) = nI (if p.testBit b then 1 else 0) ∧ RW h2 (chg A s') ∧ Fr pR h h2)) ∧ (¬ (pgv A.1 w &&& nI (2 ^ b)) = 0 → ((1 : Int32) = nI (if p.testBit b then 1 else 0) ∧ RW h2 (chg A s') ∧ Fr pR h h2)) := by
    intro h2 r f
    rw [hp, zand, and_bit]
    cases hx : p.testBit b with
    | true => exact ⟨fun z => absurd (zeq (b := 0) z (by simp; omega)) (by simp), fun _ => ⟨rfl, r, f⟩⟩
    | false => exact ⟨fun _ => ⟨rfl, r, f⟩, fun z => absurd rfl z⟩
  refine zcI_of rfl pn_X8 (fun _ => Nat.le_of_ble_eq_true rfl) rfl (rX8_setsBit_0 ⟨fun c => ⟨w, rfl, by omega, ?_⟩, fun c => ⟨w, rfl, by omega, ?_⟩⟩)
  · have hon : on = false := hv.mp c
    refine cr (c_X8_sets (s' := s') W hw hw2 V' hn (fun c hc => ?_)) (fun x h2 r => ?_)
    · rw [hs c hc, hw57, hp, zdel (by omega)]
      unfold sBit
      rw [hon]
      rfl
    · obtain ⟨rfl, r2, r3⟩ := r
      exact test h2 r2 r3
  · have hon : on = true := by
      cases on with
      | true => rfl
      | false => exact absurd (hv.mpr rfl) c
    refine cr (c_X8_sets (s' := s') W hw hw2 V' hn (fun c hc => ?_)) (fun x h2 r => ?_)
    · rw [hs c hc, hw57, hp, zor]
      unfold sBit
      rw [hon]
      rfl
    · obtain ⟨rfl, r2, r3⟩ := r
      exact test h2 r2 r3
def sSz (s : zS) (x : Nat) : zS := (s.1, x, s.2.2)
def sNb (s : zS) (x : Nat) : zS := (s.1, s.2.1, x, s.2.2.2)
def sAp (s : zS) (x : Nat) : zS := (s.1, s.2.1, s.2.2.1, x, s.2.2.2.2)
def sTg (s : zS) (x : Nat) : zS := (s.1, s.2.1, s.2.2.1, s.2.2.2.1, x, s.2.2.2.2.2)
def sNc (s : zS) (x : Nat) : zS := (s.1, s.2.1, s.2.2.1, s.2.2.2.1, s.2.2.2.2.1, x, s.2.2.2.2.2.2)
/-- allowSize, allowNumber -/
def oSz (A : zA) (x : Int32) (on : Bool) : Int32 × zA := match r16 x with
  | none => (-1, A)
  | some k => (nI (if A.1.2.1.testBit k then 1 else 0), chg A (sSz A.1 (sBit A.1.2.1 k on)))
def oNb (A : zA) (x : Int32) (on : Bool) : Int32 × zA := match r16 x with
  | none => (-1, A)
  | some k => (nI (if A.1.2.2.1.testBit k then 1 else 0), chg A (sNb A.1 (sBit A.1.2.2.1 k on)))
theorem pgv_14 {s s' : zS} {w : Nat} {v : Int32} (h0 : pgv s' 0 = if 0 = w then v else pgv s 0) (h1 : pgv s' 1 = if 1 = w then v else pgv s 1) (h2 : pgv s' 2 = if 2 = w then v else pgv s 2) (h3 : pgv s' 3 = if 3 = w then v else pgv s 3) (h4 : pgv s' 4 = if 4 = w then v else pgv s 4) (h5 : pgv s' 5 = if 5 = w then v else pgv s 5) (h6 : ∀ r, pgv s' (r + 6) = if r + 6 = w then v else pgv s (r + 6)) : ∀ c, c < 14 → pgv s' c = if c = w then v else pgv s c := by
  intro c _
  match c with
  | 0 => exact h0
  | 1 => exact h1
  | 2 => exact h2
  | 3 => exact h3
  | 4 => exact h4
  | 5 => exact h5
  | r + 6 => exact h6 r
theorem m_allowSize {h : zw_H} {A : zA} {x v : Int32} {on : Bool} (W : RW h A) (hv : v = 0 ↔ on = false) : zcI 7 mX8_allowSize [.ref 56, .int x, .int v] h (opR h (oSz A x on)) := by
  obtain ⟨w1, w2, w3, w4, w5, w6⟩ := id W
  refine zcI_of rfl pn_X8 (fun _ => Nat.le_of_ble_eq_true rfl) rfl (rX8_allowSize_0 (ca (c_X8_in h _ _ _) ⟨fun c => ?_, fun c => ?_⟩))
  · unfold oSz
    rw [r16_none.mpr (bI_0.mp c)]
    exact W.same _
  · obtain ⟨k, hk⟩ := r16_yes (Classical.byContradiction (fun z => c (bI_f z)))
    obtain ⟨k1, k2, rfl⟩ := r16_some hk
    have hsz := w1.1.2.2.1
    unfold oSz
    rw [hk, zone (by omega)]
    obtain ⟨v1, v2, v3, v4, v5, v6, v7, v8⟩ := w1.1
    exact cr (c_X8_setsBit (s' := sSz A.1 (sBit A.1.2.1 k on)) (w := 1) W (by omega) (by omega) ⟨v1, v2, sBit_lt (m := 7) v3 (by omega), v4, v5, v6, v7, v8⟩ rfl rfl (by omega) (by omega) hv (pgv_14 rfl rfl rfl rfl rfl rfl (fun _ => rfl))) (fun x h2 r => r)
theorem m_allowNumber {h : zw_H} {A : zA} {x v : Int32} {on : Bool} (W : RW h A) (hv : v = 0 ↔ on = false) : zcI 7 mX8_allowNumber [.ref 56, .int x, .int v] h (opR h (oNb A x on)) := by
  obtain ⟨w1, w2, w3, w4, w5, w6⟩ := id W
  refine zcI_of rfl pn_X8 (fun _ => Nat.le_of_ble_eq_true rfl) rfl (rX8_allowNumber_0 (ca (c_X8_in h _ _ _) ⟨fun c => ?_, fun c => ?_⟩))
  · unfold oNb
    rw [r16_none.mpr (bI_0.mp c)]
    exact W.same _
  · obtain ⟨k, hk⟩ := r16_yes (Classical.byContradiction (fun z => c (bI_f z)))
    obtain ⟨k1, k2, rfl⟩ := r16_some hk
    unfold oNb
    rw [hk, zone (by omega)]
    obtain ⟨v1, v2, v3, v4, v5, v6, v7, v8⟩ := w1.1
    exact cr (c_X8_setsBit (s' := sNb A.1 (sBit A.1.2.2.1 k on)) (w := 2) W (by omega) (by omega) ⟨v1, v2, v3, sBit_lt (m := 7) v4 (by omega), v5, v6, v7, v8⟩ rfl rfl (by omega) (by omega) hv (pgv_14 rfl rfl rfl rfl rfl rfl (fun _ => rfl))) (fun x h2 r => r)
