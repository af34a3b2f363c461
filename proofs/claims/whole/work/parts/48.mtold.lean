def oUn (A : zA) : Int32 × zA := match A.2.1 with
  | 0 => (-3, A)
  | m + 1 => (nI m, (A.2.2.1 0, m, (fun i => A.2.2.1 (i + 1)), A.2.2.2))
theorem m_undo {h : zw_H} {A : zA} (W : RW h A) : zcI 5 mX8_undo [.ref 56] h (opR h (oUn A)) := by
  obtain ⟨w1, w2, w3, w4, w5, w6⟩ := id W
  obtain ⟨m1, m2, m3⟩ := w5
  unfold oUn
  refine zcI_of rfl pn_X8 (fun _ => Nat.le_of_ble_eq_true rfl) rfl (rX8_undo_0 ⟨fun c => ?_, fun c => ?_⟩)
  · rw [m1] at c
    cases hm : A.2.1 with
    | zero => rw [hm] at c; exact absurd rfl c
    | succ m =>
      dsimp only
      rw [hm] at m1 m2 m3
      have V0 : SV (A.2.2.1 0) := w1.2.1 0 (by omega)
      generalize hQ : opR h (nI m, ((A.2.2.1 0, m, (fun i => A.2.2.1 (i + 1)), A.2.2.2) : zA)) = Q
      refine lp_up (P := fun c => ∀ k, Fr (fun a b => a = 57 ∧ b < 14) h k → (∀ c', c' < c → k.1 57 c' = pgv (A.2.2.1 0) c') → zwI 5 mX8_undo Q 12 [(0, .ref 56), (1, .int (nI c))] [] k) (N := 14) ?_ ?_ 0 (by omega) h Fr.rf (fun _ h => absurd h (by omega))
      · intro k fr inv
        refine rX8_undo_12 ⟨fun _ => fun k1 e1 => ?_, fun c => absurd (by decide) c⟩
        have f1 : Fr (fun a b => a = 56 ∧ b = 1) k k1 := Fr.rf.sI e1 ⟨rfl, rfl⟩
        have P1 : RP k1 (A.2.2.1 0) := RP_iff.mpr (fun c hc => by rw [f1.1 57 c (by omega)]; exact inv c hc)
        have h57 : k1.1 57 0 = nI (A.2.2.1 0).1 := P1.1
        refine caV (c_X8_lays V0.1 V0.2.1 h57) (fun k2 r2 => ?_)
        have P2 : RP k2 (A.2.2.1 0) := P1.fr r2.2 (fun _ => by unfold pL; omega)
        refine caV (c_X8_admits V0 r2.1 P2) (fun k3 r3 => ?_)
        have F13 : Fr (fun a b => pL a b ∨ pA a b) k1 k3 := (r2.2.mo (fun a b z => Or.inl z)).tr (r3.2.mo (fun a b z => Or.inr z))
        have e561 : k3.1 56 1 = nI m := by
          rw [F13.1 56 1 (by unfold pL pA; omega), e1, zw_sI_s, fr.1 56 1 (by omega), m1, nI_pred]
        rw [← hQ]
        refine ⟨e561, ⟨⟨V0, fun i hi => w1.2.1 (i + 1) (by rw [hm]; exact Nat.succ_lt_succ hi), w1.2.2⟩, r2.1.fr r3.2 (by unfold pA; omega) (by unfold pA; omega) (fun _ => by unfold pA; omega) (fun _ => by unfold pA; omega), P2.fr r3.2 (fun _ => by unfold pA; omega), r3.1, ⟨e561, show m ≤ 10 by omega, fun i c hi hc => ?_⟩, ?_⟩, ?_⟩
        · have hi : i < m := hi
          show k3.1 57 (14 * (m - i) + c) = pgv (A.2.2.1 (i + 1)) c
          rw [F13.1 57 _ (by unfold pL pA; omega), f1.1 57 _ (by omega), fr.1 57 _ (by omega)]
          have := m3 (i + 1) c (by omega) hc
          rw [show m + 1 - (i + 1) = m - i by omega] at this
          exact this
        · exact ((w6.fr fr (by omega) (fun _ => by omega)).fr f1 (by omega) (fun _ => by omega)).fr F13 (by unfold pL pA; omega) (fun _ => by unfold pL pA; omega)
        · exact ((fr.mo (fun a b z => by unfold pR; omega)).tr (f1.mo (fun a b z => by unfold pR; omega))).tr (F13.mo (fun a b z => by unfold pL pA at z; unfold pR; omega))
      · intro c hc ih k fr inv
        refine rX8_undo_12 ⟨fun z => ?_, fun _ => ⟨14 * (m + 1) + c, ?_, by omega, c, rfl, by omega, fun k2 e2 => ?_⟩⟩
        · have := zle (a := 14) z
          omega
        · rw [fr.1 56 1 (by omega), m1, show (14 : Int32) = nI 14 from rfl, pk_mul, nI_add]
        · rw [nI_1]
          refine ih k2 (fr.sI e2 ⟨rfl, by omega⟩) (fun c' hc' => ?_)
          by_cases hx : c' = c
          · rw [hx, e2, zw_sI_s, fr.1 57 _ (by omega)]
            exact m3 0 c (by omega) hc
          · rw [e2, zw_sI_n (Or.inr hx)]
            exact inv c' (by omega)
  · rw [m1] at c
    have := zeq (b := 0) c
    rw [this]
    exact W.same _
def pop (m n : Nat) : Nat := fb_ct (fun k => m.testBit k) n
theorem c_X8_bits {h : zw_H} {m : Nat} (hm : m < 2147483648) : zpI 0 mX8_bits [.int (nI m)] h (nI (pop m 16)) := by
  refine zcI_of rfl pn_X8 (fun _ => Nat.le_of_ble_eq_true rfl) rfl (rX8_bits_0 ?_)
  generalize hr : nI (pop m 16) = res
  refine lp_up (P := fun k => zwI 0 mX8_bits (fun x h' => x = res ∧ h' = h) 4 [(0, .int (nI m)), (1, .int (nI (pop m k))), (2, .int (nI k))] [] h) (N := 16) ?_ ?_ 0 (by omega)
  · exact rX8_bits_4 ⟨fun _ => ⟨hr, rfl⟩, fun c => absurd (by decide) c⟩
  · intro k hk ih
    refine rX8_bits_4 ⟨fun c => ?_, fun _ => ?_⟩
    · have := zle (a := 16) c
      omega
    · rw [zbit hm (by omega), nI_add, nI_1]
      rw [pop, fb_ct_succ] at ih
      exact ih
def ful (s : zS) (r : Nat) : Nat := fb_ct (fun r => (s.2.2.2.2.2.2 r).isSome) r
theorem c_X8_full {h : zw_H} {s : zS} (V : SV s) (Pg : RP h s) : zpI 1 mX8_full [.ref 56] h (nI (ful s 8)) := by
  refine zcI_of rfl pn_X8 (fun _ => Nat.le_of_ble_eq_true rfl) rfl (rX8_full_0 ?_)
  generalize hr : nI (ful s 8) = res
  refine lp_up (P := fun r => zwI 1 mX8_full (fun x h' => x = res ∧ h' = h) 4 [(0, .ref 56), (1, .int (nI (ful s r))), (2, .int (nI r))] [] h) (N := 8) ?_ ?_ 0 (by omega)
  · exact rX8_full_4 ⟨fun _ => ⟨hr, rfl⟩, fun c => absurd (by decide) c⟩
  · intro r hr8 ih
    rw [ful, fb_ct_succ] at ih
    refine rX8_full_4 ⟨fun c => ?_, fun _ => ca (c_X8_held Pg hr8) ⟨fun c => ?_, fun c => ?_⟩⟩
    · have := zle (a := 8) c
      omega
    · rw [if_pos (Classical.byContradiction (fun z => c ((reg_9 V hr8).mpr z)))] at ih
      rw [nI_1, nI_1]
      exact ih
    · rw [if_neg ((reg_9 V hr8).mp c)] at ih
      rw [nI_1, Int32.add_zero]
      exact ih
def tld (A : zA) : Nat → Int32
  | 0 => nI A.1.1
  | 1 => nI (ful A.1 8)
  | 2 => nI A.1.2.1
  | 3 => nI A.1.2.2.1
  | 4 => nI (pop A.1.2.2.2.1 16)
  | 5 => nI (pop A.1.2.2.2.2.1 16)
  | 6 => nI A.1.2.2.2.2.2.1
  | 7 => nI A.2.2.2.1
  | 8 => nI A.2.1
  | _ => -1
def oTold (A : zA) (v : Int32) : Int32 := match ri 9 v with
  | none => -1
  | some w => tld A w
theorem m_told {h : zw_H} {A : zA} {v : Int32} (W : RW h A) : zpI 2 mX8_told [.ref 56, .int v] h (oTold A v) := by
  obtain ⟨w1, w2, w3, w4, w5, w6⟩ := id W
  obtain ⟨p1, p2, p3, p4, p5, p6, p7⟩ := id w3
  obtain ⟨v1, v2, v3, v4, v5, v6, v7, v8⟩ := w1.1
  have key : ∀ w : Nat, w < 9 → v = nI w → oTold A v = tld A w := fun w hw e => by
    unfold oTold
    rw [e, ri_nI hw (by omega)]
  refine zcI_of rfl pn_X8 (fun _ => Nat.le_of_ble_eq_true rfl) rfl (rX8_told_0 ⟨fun c => ⟨?_, rfl⟩, fun c => ⟨?_, rfl⟩, fun c => ?_, fun c => ⟨?_, rfl⟩, fun c => ⟨?_, rfl⟩, fun c => ?_, fun c => ?_, fun c => ⟨?_, rfl⟩, fun c => ⟨?_, rfl⟩, fun c => ⟨?_, rfl⟩⟩)
  · unfold oTold
    rw [(ri_none (by omega)).mpr]
    rintro ⟨k, hk, rfl⟩
    rw [nI_toInt (by omega)] at c
    omega
  · rw [key 0 (by omega) c]; exact p1
  · rw [key 1 (by omega) c]; exact ca (c_X8_full w1.1 w3) ⟨rfl, rfl⟩
  · rw [key 2 (by omega) c]; exact p2
  · rw [key 3 (by omega) c]; exact p3
  · rw [key 4 (by omega) c, p4]; exact ca (c_X8_bits (by omega)) ⟨rfl, rfl⟩
  · rw [key 5 (by omega) c, p5]; exact ca (c_X8_bits (by omega)) ⟨rfl, rfl⟩
  · rw [key 6 (by omega) c]; exact p6
  · rw [key 7 (by omega) c]; exact w6.1
  · rw [key 8 (by omega) c]; exact w5.1
def dg1 (A : zA) : Nat → Int64
  | 0 => 18446
  | w + 1 => (31 : Int64) * dg1 A w + Int32.toInt64 (tld A w)
def dg2 (A : zA) : Nat → Int64
  | 0 => (31 : Int64) * dg1 A 9 + Int32.toInt64 (nI (cnt A.1))
  | k + 1 => (31 : Int64) * dg2 A k + Int32.toInt64 (nI (cwN A.1 (k + 1) (kN A.1.1)))
def dgE (n g : Nat) (x : Int64) : Nat → Int64
  | 0 => x
  | e + 1 => (31 : Int64) * dgE n g x e + Int32.toInt64 (nI (ks n g e))
/-- the digest goes on by a register -/
def dgR (s : zS) (x : Int64) : Option Nat → Int64
  | none => (31 : Int64) * x + (-9 : Int64)
  | some g => (31 : Int64) * ((31 : Int64) * ((31 : Int64) * dgE s.1 g ((31 : Int64) * x + Int32.toInt64 (nI (kB s.1 g))) s.1 + Int32.toInt64 (nI (rsn s g))) + Int32.toInt64 (plc s g)) + Int32.toInt64 (ixI s g)
def dg3 (A : zA) : Nat → Int64
  | 0 => dg2 A 6
  | r + 1 => dgR A.1 (dg3 A r) (A.1.2.2.2.2.2.2 r)
theorem m_digest {h : zw_H} {A : zA} (W : RW h A) : zpL 5 mX8_digest [.ref 56] h (dg3 A 8) := by
  have n1 := W.2.1.1
  have n2 := W.2.1.2.1
  have h57 := W.2.1.2.2.1
  have hN := (kN_le n1 n2).1
  refine zcL_of rfl pn_X8 (fun _ => Nat.le_of_ble_eq_true rfl) rfl (rX8_digest_0 ?_)
  generalize hr : dg3 A 8 = res
  refine lp_up (P := fun w => zwL 5 mX8_digest (fun x h' => x = res ∧ h' = h) 6 [(0, .ref 56), (1, .long (dg1 A w)), (3, .int (nI w))] [] h) (N := 9) ?_ ?_ 0 (by omega)
  · refine rX8_digest_6 ⟨fun _ => ?_, fun c => absurd (by decide) c⟩
    rw [W.2.2.2.1.2]
    show zwL 5 mX8_digest _ 45 [(0, .ref 56), (1, .long (dg2 A 0)), (3, .int (nI (0 + 1)))] [] h
    refine lp_up (P := fun k => zwL 5 mX8_digest (fun x h' => x = res ∧ h' = h) 45 [(0, .ref 56), (1, .long (dg2 A k)), (3, .int (nI (k + 1)))] [] h) (N := 6) ?_ ?_ 0 (by omega)
    · refine rX8_digest_45 ⟨fun _ => ?_, fun c => absurd (by decide) c⟩
      show zwL 5 mX8_digest _ 72 [(0, .ref 56), (1, .long (dg3 A 0)), (3, .int (nI 0))] [] h
      refine lp_up (P := fun r => zwL 5 mX8_digest (fun x h' => x = res ∧ h' = h) 72 [(0, .ref 56), (1, .long (dg3 A r)), (3, .int (nI r))] [] h) (N := 8) ?_ ?_ 0 (by omega)
      · exact rX8_digest_72 ⟨fun _ => ⟨hr, rfl⟩, fun c => absurd (by decide) c⟩
      · intro r hr8 ih
        rw [dg3] at ih
        refine rX8_digest_72 ⟨fun c => ?_, fun _ => ca (c_X8_held W.2.2.1 hr8) ⟨fun c => ?_, fun c => ?_⟩⟩
        · have := zle (a := 8) c
          omega
        · cases hx : A.1.2.2.2.2.2.2 r with
          | none => rw [hx] at c; exact absurd rfl c
          | some g =>
            have hg := W.1.1.2.2.2.2.2.2.2 r g hr8 hx
            rw [hx, dgR] at ih
            refine ⟨g, rfl, by omega, ?_⟩
            rw [W.2.1.2.2.2.2.1 g hg]
            generalize hx0 : (31 : Int64) * dg3 A r + Int32.toInt64 (nI (kB A.1.1 g)) = x0
            rw [hx0] at ih
            refine lp_up (P := fun e => zwL 5 mX8_digest (fun x h' => x = res ∧ h' = h) 123 [(0, .ref 56), (1, .long (dgE A.1.1 g x0 e)), (3, .int (nI r)), (4, .int (nI g)), (5, .int (nI e))] [] h) (N := A.1.1) ?_ ?_ 0 (by omega)
            · refine rX8_digest_123 ⟨fun _ => ca (c_X8_reason W.1.1 W.2.1 W.2.2.1 hg) (ca (c_X8_placeOf W.1.1 W.2.1 W.2.2.1 hg) ⟨g, rfl, by omega, ?_⟩), fun c => absurd (by rw [h57]; exact nI_le (Nat.le_refl _) (by omega)) c⟩
              rw [nI_1, W.2.2.2.1.1 g hg]
              exact ih
            · intro e he ih2
              refine rX8_digest_123 ⟨fun c => ?_, fun _ => ca (c_X8_at W.2.1 hg he) ?_⟩
              · rw [h57] at c
                have := zle c
                omega
              · rw [nI_1]
                exact ih2
        · cases hx : A.1.2.2.2.2.2.2 r with
          | some g =>
            have hg := W.1.1.2.2.2.2.2.2.2 r g hr8 hx
            rw [hx] at c
            exact absurd c (nI_9 (by omega))
          | none =>
            rw [hx] at ih
            rw [nI_1]
            exact ih
    · intro k hk ih
      refine rX8_digest_45 ⟨fun c => ?_, fun _ => ca (c_X8_manyWith W.2.1 W.2.2.2.1 (by omega)) ?_⟩
      · have := zlt (a := 6) c
        omega
      · rw [nI_1]
        exact ih
  · intro w hw ih
    refine rX8_digest_6 ⟨fun c => ?_, fun _ => ca (m_told W) ?_⟩
    · have := zlt (a := 8) c
      omega
    · have e : oTold A (nI w) = tld A w := by
        unfold oTold
        rw [ri_nI hw (by omega)]
      rw [e, nI_1]
      exact ih
/-- the text as a partition: what has been read, the blocks, the block now, whether it has an element -/
def pzS (n : Nat) (c : Nat) (st : Nat × (Nat → Nat) × Nat × Bool) : Option (Nat × (Nat → Nat) × Nat × Bool) :=
  if 48 ≤ c ∧ c < 48 + n ∧ st.1.testBit (c - 48) = false then some (st.1 ||| 2 ^ (c - 48), (fun e => if e = c - 48 then st.2.2.1 else st.2.1 e), st.2.2.1, true)
  else if c = 47 ∧ st.2.2.2 = true then some (st.1, st.2.1, st.2.2.1 + 1, false) else none
/-- the fault of a text from its k-th character on, or the blocks -/
def pzR (n : Nat) (x : Nat → Nat) (k : Nat) (st : Nat × (Nat → Nat) × Nat × Bool) : Nat → Nat ⊕ (Nat → Nat)
  | 0 => if (∀ i, i < n → st.1.testBit i = true) ∧ st.2.2.2 = true then .inr st.2.1 else .inl k
  | m + 1 => match pzS n (x k) st with
    | none => .inl k
    | some st' => pzR n x (k + 1) st' m
def rdR (A : zA) : Nat ⊕ (Nat → Nat) := pzR A.1.1 A.2.2.2.2 0 (0, (fun _ => 0), 0, false) A.2.2.2.1
noncomputable def oRd (A : zA) (t : Int32) : Int32 × zA := match ri 8 t with
  | none => (-1, A)
  | some _ => match rdR A with
    | .inl f => ((-10 : Int32) - nI f, A)
    | .inr w => oT A 0 t (canon A.1.1 w)
