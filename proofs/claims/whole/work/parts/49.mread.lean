theorem dig_in {c n : Nat} (hc : c < 128) (h1 : 1 ≤ n) (h2 : n ≤ 6) : (¬ nI c - 48 < 0 ∧ ¬ nI n - 1 < nI c - 48) ↔ 48 ≤ c ∧ c < 48 + n := by
  rw [← iR_in0 (by omega)]
  constructor
  · rintro ⟨k, hk, e⟩
    have h3 := congrArg Int32.toInt e
    rw [show (48 : Int32) = nI 48 from rfl, pk_sub_toInt (by omega) (by omega), nI_toInt (by omega)] at h3
    omega
  · rintro ⟨a, b⟩
    exact ⟨c - 48, by omega, by rw [show (48 : Int32) = nI 48 from rfl, pk_sub a]⟩
theorem bit_31 : ∀ i, i < 6 → Nat.testBit 4294967295 i = true := by decide
def rdQ (h : zw_H) (n : Nat) (R : Nat ⊕ (Nat → Nat)) (x : Int32) (h' : zw_H) : Prop := Fr (fun a _ => a = 62) h h' ∧ match R with
  | .inl f => x = nI f
  | .inr w => x = -9 ∧ ∀ e, e < n → h'.1 62 e = nI (w e)
theorem pzR_lt {n : Nat} {x : Nat → Nat} : ∀ {m k : Nat} {st : Nat × (Nat → Nat) × Nat × Bool} {f : Nat}, pzR n x k st m = .inl f → f ≤ k + m
  | 0, k, st, f, h => by
    rw [pzR] at h
    split at h
    · cases h
    · cases h
      exact Nat.le_refl _
  | m + 1, k, st, f, h => by
    rw [pzR] at h
    split at h
    · cases h
      omega
    · have := pzR_lt h
      omega
theorem pzR_b {n : Nat} {x : Nat → Nat} : ∀ {m k : Nat} {st : Nat × (Nat → Nat) × Nat × Bool} {w : Nat → Nat}, pzR n x k st m = .inr w → (∀ e, st.2.1 e ≤ 20) → st.2.2.1 + m ≤ 20 → ∀ e, w e ≤ 20
  | 0, k, st, w, h, hw, hb => by
    rw [pzR] at h
    split at h
    · cases h
      exact hw
    · cases h
  | m + 1, k, st, w, h, hw, hb => by
    rw [pzR] at h
    split at h
    · cases h
    · rename_i st' e
      unfold pzS at e
      split at e
      · cases e
        refine pzR_b h (fun e => ?_) (by dsimp only; omega)
        dsimp only
        split
        · omega
        · exact hw e
      · split at e
        · cases e
          exact pzR_b h hw (by dsimp only; omega)
        · cases e
theorem c_X8_reads {h : zw_H} {A : zA} (W : RW h A) : zcI 1 mX8_reads [.ref 56] h (rdQ h A.1.1 (rdR A)) := by
  obtain ⟨w1, w2, w3, w4, w5, w6⟩ := id W
  have n1 := W.2.1.1
  have n2 := W.2.1.2.1
  have h57 := W.2.1.2.2.1
  have hk20 := w1.2.2.1
  have hx128 := w1.2.2.2
  have hp2 : 2 ^ A.1.1 ≤ 2 ^ 6 := Nat.pow_le_pow_right (by decide) (by omega)
  have hp1 : 2 ^ 1 ≤ 2 ^ A.1.1 := Nat.pow_le_pow_right (by decide) (by omega)
  refine zcI_of rfl pn_X8 (fun _ => Nat.le_of_ble_eq_true rfl) rfl (rX8_reads_0 ?_)
  rw [h57, zone (by omega), show (1 : Int32) = nI 1 from rfl, pk_sub (by omega)]
  unfold rdR
  generalize hR : pzR A.1.1 A.2.2.2.2 0 (0, (fun _ => 0), 0, false) A.2.2.2.1 = R
  have start : pzR A.1.1 A.2.2.2.2 0 (0, (fun _ => 0), 0, false) (A.2.2.2.1 - 0) = R := hR
  have hL0 : ∀ i, (2 ^ A.1.1 - 1).testBit i = (decide (i < A.1.1) && !(0 : Nat).testBit i) := fun i => by
    rw [Nat.testBit_two_pow_sub_one, Nat.zero_testBit]
    simp
  have e0 : (0 : Int32) = bI (false = true) := (bI_f (by decide)).symm
  rw [e0]
  have e00 : bI (false = true) = 0 := bI_f (by decide)
  rw [show [((0 : Nat), Value.ref 56), (1, Value.int (nI (2 ^ A.1.1 - 1))), (2, Value.int (bI (false = true))), (3, Value.int (bI (false = true))), (4, Value.int (bI (false = true)))] = [(0, Value.ref 56), (1, Value.int (nI (2 ^ A.1.1 - 1))), (2, Value.int (nI 0)), (3, Value.int (bI (false = true))), (4, Value.int (nI 0))] by rw [e00]; rfl]
  refine lp_up (P := fun k => ∀ (L : Nat) (seen : Nat) (Wf : Nat → Nat) (b : Nat) (bh : Bool) (k1 : zw_H), Fr (fun a _ => a = 62) h k1 → (∀ i, L.testBit i = (decide (i < A.1.1) && !seen.testBit i)) → L < 64 → (∀ e, e < A.1.1 → seen.testBit e = true → k1.1 62 e = nI (Wf e)) → pzR A.1.1 A.2.2.2.2 k (seen, Wf, b, bh) (A.2.2.2.1 - k) = R → zwI 1 mX8_reads (rdQ h A.1.1 R) 18 [(0, .ref 56), (1, .int (nI L)), (2, .int (nI b)), (3, .int (bI (bh = true))), (4, .int (nI k))] [] k1) (N := A.2.2.2.1) ?_ ?_ 0 (by omega) (2 ^ A.1.1 - 1) 0 (fun _ => 0) 0 false h Fr.rf hL0 (by omega) (fun e _ z => by rw [Nat.zero_testBit] at z; cases z) start
  · intro L seen Wf b bh k1 fr hL hL64 hWf hRR
    have W1 := W.now fr
    have x1 := W1.2.2.2.2.2.1
    rw [show A.2.2.2.1 - A.2.2.2.1 = 0 by omega, pzR] at hRR
    have all : (∀ i, i < A.1.1 → seen.testBit i = true) ↔ L = 0 := by
      constructor
      · intro a
        apply Nat.eq_of_testBit_eq
        intro i
        rw [hL i, Nat.zero_testBit]
        by_cases hx : i < A.1.1
        · rw [a i hx]; simp
        · simp [hx]
      · intro e i hi
        have := hL i
        rw [e, Nat.zero_testBit] at this
        simp [hi] at this
        exact this
    refine rX8_reads_18 ⟨fun _ => ⟨fun c => ?_, fun c => ⟨fun c2 => ?_, fun c2 => ?_⟩⟩, fun c => absurd (by rw [x1]; exact nI_le (Nat.le_refl _) (by omega)) c⟩
    · rw [if_neg (fun z => c (by rw [all.mp z.1]; rfl))] at hRR
      rw [← hRR]
      exact ⟨fr, x1⟩
    · rw [if_neg (fun z => bI_0.mp c2 z.2)] at hRR
      rw [← hRR]
      exact ⟨fr, x1⟩
    · have c1 := all.mpr (zeq (b := 0) c)
      rw [if_pos ⟨c1, bI_yes c2⟩] at hRR
      rw [← hRR]
      exact ⟨fr, rfl, fun e he => hWf e he (c1 e he)⟩
  · intro k hk ih L seen Wf b bh k1 fr hL hL64 hWf hRR
    have W1 := W.now fr
    have x1 := W1.2.2.2.2.2.1
    have x2 := W1.2.2.2.2.2.2 k hk
    have hc := hx128 k hk
    rw [show A.2.2.2.1 - k = (A.2.2.2.1 - (k + 1)) + 1 by omega, pzR] at hRR
    generalize hcc : A.2.2.2.2 k = c at *
    -- neither a new element
    have other : ¬ (48 ≤ c ∧ c < 48 + A.1.1 ∧ seen.testBit (c - 48) = false) → ∃ j3, nI k = nI j3 ∧ j3 < 20 ∧ ((¬ (k1.1 58 j3) = 47 → rdQ h A.1.1 R (nI k) k1) ∧ ((k1.1 58 j3) = 47 → ((bI (bh = true) = 0 → rdQ h A.1.1 R (nI k) k1) ∧ (¬ bI (bh = true) = 0 → zwI 1 mX8_reads (rdQ h A.1.1 R) 18 [(0, .ref 56), (1, .int (nI L)), (2, .int (nI b + 1)), (3, .int 0), (4, .int (nI k + 1))] [] k1)))) := fun no => by
      have bad : ¬ (c = 47 ∧ bh = true) → rdQ h A.1.1 R (nI k) k1 := fun n2 => by
        have e : pzS A.1.1 c (seen, Wf, b, bh) = none := by
          unfold pzS
          rw [if_neg no, if_neg n2]
        rw [e] at hRR
        dsimp only at hRR
        rw [← hRR]
        exact ⟨fr, rfl⟩
      refine ⟨k, rfl, by omega, fun q => bad (fun z => q (by rw [x2, z.1]; rfl)), fun q => ⟨fun q2 => bad (fun z => bI_0.mp q2 z.2), fun q2 => ?_⟩⟩
      rw [x2] at q
      have q' : c = 47 := zeq (b := 47) q
      have e : pzS A.1.1 c (seen, Wf, b, bh) = some (seen, Wf, b + 1, false) := by
        unfold pzS
        rw [if_neg no, if_pos ⟨q', bI_yes q2⟩]
      rw [e] at hRR
      dsimp only at hRR
      rw [nI_1, nI_1]
      have := ih L seen Wf (b + 1) false k1 fr hL hL64 hWf hRR
      rw [bI_f (by decide)] at this
      exact this
    have hin := dig_in hc n1 n2
    refine rX8_reads_18 ⟨fun c => ?_, fun _ => ⟨k, rfl, by omega, ?_⟩⟩
    · rw [x1] at c
      have := zle c
      omega
    rw [x2, W1.2.1.2.2.1]
    refine ca (c_X8_in k1 _ _ _) ⟨fun d => other (fun z => bI_0.mp d (hin.mpr ⟨z.1, z.2.1⟩)), fun d => ?_⟩
    obtain ⟨d1, d2⟩ := hin.mp (bI_yes d)
    have hs : nI c - 48 = nI (c - 48) := by rw [show (48 : Int32) = nI 48 from rfl, pk_sub d1]
    rw [hs]
    have hb := hL (c - 48)
    rw [decide_eq_true (show c - 48 < A.1.1 by omega), Bool.true_and] at hb
    refine ⟨fun d3 => other (fun z => d3 ((zbit1 (by omega) (by omega)).mpr (by rw [hb, z.2.2]; rfl))), fun d3 => ⟨c - 48, rfl, by omega, fun k2 e2 => ?_⟩⟩
    have d4 := (zbit1 (by omega) (by omega)).mp d3
    rw [hb] at d4
    have d5 : seen.testBit (c - 48) = false := by
      cases hx : seen.testBit (c - 48) with
      | false => rfl
      | true => rw [hx] at d4; cases d4
    have e : pzS A.1.1 c (seen, Wf, b, bh) = some (seen ||| 2 ^ (c - 48), (fun e => if e = c - 48 then b else Wf e), b, true) := by
      unfold pzS
      rw [if_pos ⟨d1, d2, d5⟩]
    rw [e] at hRR
    dsimp only at hRR
    rw [zone (by omega), zdel (by omega), nI_1]
    have := ih (L &&& (2 ^ (c - 48) ^^^ 4294967295)) (seen ||| 2 ^ (c - 48)) (fun e => if e = c - 48 then b else Wf e) b true k2 (fr.sI e2 rfl) (fun i => ?_) (Nat.lt_of_le_of_lt Nat.and_le_left hL64) (fun e he z => ?_) hRR
    · rw [bI_t rfl] at this
      exact this
    · rw [Nat.testBit_and, hL i, Nat.testBit_or, Nat.testBit_xor, Nat.testBit_two_pow]
      by_cases hi : i < A.1.1
      · rw [bit_31 i (by omega)]
        by_cases hx : c - 48 = i
        · simp [hx]
        · simp [hx]
      · simp [hi]
    · by_cases hx : e = c - 48
      · rw [if_pos hx, e2, hx, zw_sI_s]
      · rw [if_neg hx, e2, zw_sI_n (Or.inr hx)]
        refine hWf e he ?_
        rw [Nat.testBit_or, Nat.testBit_two_pow, decide_eq_false (fun z => hx z.symm), Bool.or_false] at z
        exact z
theorem m_read {h : zw_H} {A : zA} {t : Int32} (W : RW h A) : zcI 2 mX8_read [.ref 56, .int t] h (opR h (oRd A t)) := by
  unfold oRd
  refine zcI_of rfl pn_X8 (fun _ => Nat.le_of_ble_eq_true rfl) rfl (rX8_read_0 (ca (c_X8_isRegister h t) ⟨fun c => ?_, fun c => ?_⟩))
  · obtain ⟨t', t1, rfl⟩ := bI_yes c
    rw [ri_nI t1 (by omega)]
    dsimp only
    refine cr (c_X8_reads W) (fun x k r => ?_)
    obtain ⟨r1, r2⟩ := r
    have W1 := W.now r1
    have F1 : Fr pR h k := r1.mo (fun a b z => by unfold pR; omega)
    have h20 := W.1.2.2.1
    cases hR : rdR A with
    | inl f =>
      have hf := pzR_lt hR
      rw [hR] at r2
      dsimp only at r2
      rw [r2]
      exact ⟨fun c2 => absurd c2 (nI_9 (by omega)), fun _ => ⟨rfl, W1, F1⟩⟩
    | inr w =>
      have hw := pzR_b hR (fun _ => Nat.zero_le _) (by dsimp only; omega)
      rw [hR] at r2
      obtain ⟨r2, r3⟩ := r2
      rw [r2]
      refine ⟨fun _ => m_numputs w W1 F1 t1 (fun i j hj hi => ?_), fun c2 => absurd rfl c2⟩
      have i1 := hw i
      have i2 := hw j
      rw [r3 i hi, r3 j (by omega), nI_eq (by omega) (by omega)]
  · rw [(ri_none (by omega)).mpr (bI_0.mp c)]
    exact W.same _
