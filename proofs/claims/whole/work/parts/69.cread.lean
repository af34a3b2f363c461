theorem pwk_lt {m e : Nat} (he : e < 6) : ∀ f, f ≤ 6 → pwk m e f < 2 ^ 15
  | 0, _ => by show 0 < 2 ^ 15; decide
  | f + 1, hf => by
    have h := pwk_lt (m := m) he f (by omega)
    rw [pwk]
    split
    · exact Nat.or_lt_two_pow h (pbit_lt he (by omega))
    · exact h
/-- the pairs of e with a set of elements that it isn't in -/
theorem pwk_bit {m e i j : Nat} (he : e < 6) (hij : i < j) (hj : j < 6) : ∀ f, f ≤ 6 → ((pwk m e f).testBit (kp i j) = true ↔ (i = e ∧ j < f ∧ m.testBit j = true ∨ j = e ∧ i < f ∧ m.testBit i = true))
  | 0, _ => ⟨fun h => (by rw [pwk, Nat.zero_testBit] at h; cases h), fun h => by omega⟩
  | f + 1, hf => by
    have ih := pwk_bit (m := m) he hij hj f (by omega)
    rw [pwk]
    by_cases hb : m.testBit f = true
    · rw [if_pos hb, Nat.testBit_or, Bool.or_eq_true, ih]
      have hp : (pbit e f).testBit (kp i j) = true ↔ (i = e ∧ j = f ∨ j = e ∧ i = f) := by
        by_cases hef : e = f
        · unfold pbit
          rw [if_pos hef, Nat.zero_testBit]
          exact ⟨fun h => (by cases h), fun h => by omega⟩
        · rw [pbit_kpp hef, Nat.testBit_two_pow, decide_eq_true_eq]
          constructor
          · intro h
            rcases kpp_inj he (by omega) hef hij hj h with ⟨a, b⟩ | ⟨a, b⟩
            · exact Or.inl ⟨a.symm, b.symm⟩
            · exact Or.inr ⟨a.symm, b.symm⟩
          · rintro (⟨a, b⟩ | ⟨a, b⟩)
            · rw [← a, ← b]
              unfold kpp
              rw [if_pos hij]
            · rw [← a, ← b]
              unfold kpp
              rw [if_neg (by omega)]
      rw [hp]
      constructor
      · rintro ((⟨a, b, c⟩ | ⟨a, b, c⟩) | (⟨a, b⟩ | ⟨a, b⟩))
        · exact Or.inl ⟨a, by omega, c⟩
        · exact Or.inr ⟨a, by omega, c⟩
        · exact Or.inl ⟨a, by omega, by rw [b]; exact hb⟩
        · exact Or.inr ⟨a, by omega, by rw [b]; exact hb⟩
      · rintro (⟨a, b, c⟩ | ⟨a, b, c⟩)
        · by_cases hx : j = f
          · exact Or.inr (Or.inl ⟨a, hx⟩)
          · exact Or.inl (Or.inl ⟨a, by omega, c⟩)
        · by_cases hx : i = f
          · exact Or.inr (Or.inr ⟨a, hx⟩)
          · exact Or.inl (Or.inr ⟨a, by omega, c⟩)
    · rw [if_neg hb, ih]
      constructor
      · rintro (⟨a, b, c⟩ | ⟨a, b, c⟩)
        · exact Or.inl ⟨a, by omega, c⟩
        · exact Or.inr ⟨a, by omega, c⟩
      · rintro (⟨a, b, c⟩ | ⟨a, b, c⟩)
        · refine Or.inl ⟨a, ?_, c⟩
          have : j ≠ f := fun z => hb (by rw [← z]; exact c)
          omega
        · refine Or.inr ⟨a, ?_, c⟩
          have : i ≠ f := fun z => hb (by rw [← z]; exact c)
          omega
/-- what the class keeps of a text that it has read so far -/
def PI (n : Nat) (st : Nat × (Nat → Nat) × Nat × Bool) (pairs block : Nat) : Prop := st.1 < 2 ^ n ∧ pairs < 32768 ∧ block < 2 ^ n ∧ (∀ e, st.1.testBit e = true → st.2.1 e ≤ st.2.2.1) ∧ (∀ e, block.testBit e = true ↔ (st.1.testBit e = true ∧ st.2.1 e = st.2.2.1)) ∧ (st.2.2.2 = true ↔ block ≠ 0) ∧ ∀ i j, i < j → j < 6 → (pairs.testBit (kp i j) = true ↔ (st.1.testBit i = true ∧ st.1.testBit j = true ∧ st.2.1 i = st.2.1 j))
noncomputable def paQ (n : Nat) (R : Nat ⊕ (Nat → Nat)) : Int32 := match R with
  | .inl f => (-10 : Int32) - nI f
  | .inr w => nI (km n (canon n w))
theorem c_X6_parse {h : zw_H} {A : zA} (W : CW h A) : zpI 2 mX6_parse [.ref 25, .int (nI A.1.1)] h (paQ A.1.1 (rdR A)) := by
  have n1 := W.1.1.1
  have n2 := W.1.1.2.1
  obtain ⟨x1, x2⟩ := W.2.2.2.2.1
  have hk20 := W.1.2.2.1
  have hx128 := W.1.2.2.2
  have hp2 : 2 ^ A.1.1 ≤ 2 ^ 6 := Nat.pow_le_pow_right (by decide) (by omega)
  have hp1 : 2 ^ 1 ≤ 2 ^ A.1.1 := Nat.pow_le_pow_right (by decide) (by omega)
  refine zcI_of rfl pn_X6 (fun _ => Nat.le_of_ble_eq_true rfl) rfl (rX6_parse_0 ?_)
  unfold rdR
  generalize hR : pzR A.1.1 A.2.2.2.2 0 (0, (fun _ => 0), 0, false) A.2.2.2.1 = R
  have start : pzR A.1.1 A.2.2.2.2 0 (0, (fun _ => 0), 0, false) (A.2.2.2.1 - 0) = R := hR
  generalize hres : paQ A.1.1 R = res
  have P0 : PI A.1.1 (0, (fun _ => 0), 0, false) 0 0 := by
    refine ⟨Nat.two_pow_pos _, by decide, Nat.two_pow_pos _, fun e he => ?_, fun e => ?_, ?_, fun i j _ _ => ?_⟩
    · rw [Nat.zero_testBit] at he; cases he
    · rw [Nat.zero_testBit]
      exact ⟨fun z => (by cases z), fun z => (by cases z.1)⟩
    · exact ⟨fun z => (by cases z), fun z => absurd rfl z⟩
    · rw [Nat.zero_testBit, Nat.zero_testBit]
      exact ⟨fun z => (by cases z), fun z => (by cases z.1)⟩
  refine lp_up (P := fun k => ∀ (st : Nat × (Nat → Nat) × Nat × Bool) (pairs block : Nat), PI A.1.1 st pairs block → pzR A.1.1 A.2.2.2.2 k st (A.2.2.2.1 - k) = R → zwI 2 mX6_parse (fun x h' => x = res ∧ h' = h) 10 [(0, .ref 25), (1, .int (nI A.1.1)), (2, .int (nI pairs)), (3, .int (nI st.1)), (4, .int (nI block)), (5, .int (nI k))] [] h) (N := A.2.2.2.1) ?_ ?_ 0 (by omega) (0, (fun _ => 0), 0, false) 0 0 P0 start
  · intro st pairs block P hRR
    obtain ⟨q1, q2, q3, q4, q5, q6, q7⟩ := P
    rw [show A.2.2.2.1 - A.2.2.2.1 = 0 by omega, pzR] at hRR
    have all : (∀ i, i < A.1.1 → st.1.testBit i = true) ↔ st.1 = 2 ^ A.1.1 - 1 := by
      constructor
      · intro a
        apply Nat.eq_of_testBit_eq
        intro i
        rw [Nat.testBit_two_pow_sub_one]
        by_cases hx : i < A.1.1
        · rw [a i hx, decide_eq_true hx]
        · rw [decide_eq_false hx]
          exact Nat.testBit_lt_two_pow (Nat.lt_of_lt_of_le q1 (Nat.pow_le_pow_right (by decide) (by omega)))
      · intro e i hi
        rw [e, Nat.testBit_two_pow_sub_one]
        exact decide_eq_true hi
    have bad : ¬ ((∀ i, i < A.1.1 → st.1.testBit i = true) ∧ st.2.2.2 = true) → (-10 : Int32) - (h.1 25 1) = res ∧ h = h := fun z => by
      rw [if_neg z] at hRR
      rw [← hres, ← hRR, x1]
      exact ⟨rfl, rfl⟩
    refine rX6_parse_10 ⟨fun _ => ⟨fun c => ⟨fun _ => bad (fun z => ?_), fun z => absurd rfl z⟩, fun c => ⟨fun c2 => ⟨fun _ => bad (fun z => ?_), fun z => absurd rfl z⟩, fun c2 => ⟨fun z => absurd z (by decide), fun _ => ⟨?_, rfl⟩⟩⟩⟩, fun c => absurd (by rw [x1]; exact nI_le (Nat.le_refl _) (by omega)) c⟩
    · exact q6.mp z.2 (zeq (b := 0) c)
    · rw [zone (by omega), show (1 : Int32) = nI 1 from rfl, pk_sub (by omega)] at c2
      exact c2 (by rw [all.mp z.1])
    · rw [zone (by omega), show (1 : Int32) = nI 1 from rfl, pk_sub (by omega)] at c2
      have a1 := all.mpr (zeq c2)
      have a2 := q6.mpr (fun z => c (by rw [z]; rfl))
      rw [if_pos ⟨a1, a2⟩] at hRR
      rw [← hres, ← hRR]
      show nI pairs = nI (km A.1.1 (canon A.1.1 st.2.1))
      rw [← km_canon (X := st.2.1) n1 n2 q2 (fun i j hij hj => ?_)]
      rw [q7 i j hij hj]
      constructor
      · rintro ⟨_, z2, z3⟩
        refine ⟨?_, z3⟩
        apply Classical.byContradiction
        intro hx
        rw [Nat.testBit_lt_two_pow (Nat.lt_of_lt_of_le q1 (Nat.pow_le_pow_right (by decide) (show A.1.1 ≤ j by omega)))] at z2
        cases z2
      · rintro ⟨z1, z2⟩
        exact ⟨a1 i (by omega), a1 j z1, z2⟩
  · intro k hk ih st pairs block P hRR
    obtain ⟨q1, q2, q3, q4, q5, q6, q7⟩ := id P
    have hc := hx128 k hk
    have xk := x2 k hk
    rw [show A.2.2.2.1 - k = (A.2.2.2.1 - (k + 1)) + 1 by omega, pzR] at hRR
    generalize hcc : A.2.2.2.2 k = c at *
    have other : ¬ (48 ≤ c ∧ c < 48 + A.1.1 ∧ st.1.testBit (c - 48) = false) → ∃ j3, nI k = nI j3 ∧ j3 < 20 ∧ ((¬ (h.1 26 j3) = 47 → ((-10 : Int32) - nI k = res ∧ h = h)) ∧ ((h.1 26 j3) = 47 → ((nI block = 0 → ((-10 : Int32) - nI k = res ∧ h = h)) ∧ (¬ nI block = 0 → zwI 2 mX6_parse (fun x h' => x = res ∧ h' = h) 10 [(0, .ref 25), (1, .int (nI A.1.1)), (2, .int (nI pairs)), (3, .int (nI st.1)), (4, .int 0), (5, .int (nI k + 1))] [] h)))) := fun no => by
      have bad : ¬ (c = 47 ∧ st.2.2.2 = true) → (-10 : Int32) - nI k = res ∧ h = h := fun n2 => by
        have e : pzS A.1.1 c st = none := by
          unfold pzS
          rw [if_neg no, if_neg n2]
        rw [e] at hRR
        dsimp only at hRR
        rw [← hres, ← hRR]
        exact ⟨rfl, rfl⟩
      refine ⟨k, rfl, by omega, fun q => bad (fun z => q (by rw [xk, z.1]; rfl)), fun q => ⟨fun qb => bad (fun z => q6.mp z.2 (zeq (b := 0) qb)), fun qb => ?_⟩⟩
      rw [xk] at q
      have q' : c = 47 := zeq (b := 47) q
      have bh := q6.mpr (fun z => qb (by rw [z]; rfl))
      have e : pzS A.1.1 c st = some (st.1, st.2.1, st.2.2.1 + 1, false) := by
        unfold pzS
        rw [if_neg no, if_pos ⟨q', bh⟩]
      rw [e] at hRR
      dsimp only at hRR
      rw [nI_1]
      refine ih (st.1, st.2.1, st.2.2.1 + 1, false) pairs 0 ⟨q1, q2, Nat.two_pow_pos _, fun e he => ?_, fun e => ?_, ?_, q7⟩ hRR
      · have := q4 e he
        show st.2.1 e ≤ st.2.2.1 + 1
        omega
      · rw [Nat.zero_testBit]
        refine ⟨fun z => (by cases z), fun z => ?_⟩
        have h1 := q4 e z.1
        have h2 : st.2.1 e = st.2.2.1 + 1 := z.2
        omega
      · exact ⟨fun z => (by cases z), fun z => absurd rfl z⟩
    have hin := dig_in hc n1 n2
    refine rX6_parse_10 ⟨fun d => ?_, fun _ => ⟨k, rfl, by omega, ?_⟩⟩
    · rw [x1] at d
      have := zle d
      omega
    rw [xk]
    refine ⟨fun d => other (fun z => (hin.mpr ⟨z.1, z.2.1⟩).1 d), fun d => ⟨fun d2 => other (fun z => ?_), fun d2 => ?_⟩⟩
    · have := (hin.mpr ⟨z.1, z.2.1⟩).2
      rw [Int32.lt_iff_toInt_lt] at this
      rw [Int32.le_iff_toInt_le] at d2
      rw [show A.1.1 = (A.1.1 - 1) + 1 by omega, nI_pred, nI_toInt (by omega)] at this
      rw [nI_toInt (by omega)] at d2
      omega
    · have hdig : 48 ≤ c ∧ c < 48 + A.1.1 := hin.mp ⟨d, fun z => d2 (by
        rw [show A.1.1 = (A.1.1 - 1) + 1 by omega, nI_pred] at z
        rw [Int32.lt_iff_toInt_lt, nI_toInt (by omega)] at z
        rw [Int32.le_iff_toInt_le, nI_toInt (by omega)]
        omega)⟩
      obtain ⟨d1, d3⟩ := hdig
      have hs : nI c - 48 = nI (c - 48) := by rw [show (48 : Int32) = nI 48 from rfl, pk_sub d1]
      have he6 : c - 48 < 6 := by omega
      have hsn : st.1 < 2147483648 := by omega
      rw [hs]
      refine ⟨fun d4 => other (fun z => d4 ((zbit0 hsn (by omega)).mpr z.2.2)), fun d4 => ?_⟩
      have d5 := (zbit0 hsn (by omega)).mp d4
      refine ca (c_X7_pairsWith h (m := block) (by omega) he6) ?_
      have e : pzS A.1.1 c st = some (st.1 ||| 2 ^ (c - 48), (fun e => if e = c - 48 then st.2.2.1 else st.2.1 e), st.2.2.1, true) := by
        unfold pzS
        rw [if_pos ⟨d1, d3, d5⟩]
      rw [e] at hRR
      dsimp only at hRR
      rw [zone (by omega), zor, zor, zor, nI_1]
      have hpn : 2 ^ (c - 48) < 2 ^ A.1.1 := Nat.pow_lt_pow_right (by decide) (by omega)
      have sb : ∀ f, (st.1 ||| 2 ^ (c - 48)).testBit f = true ↔ (st.1.testBit f = true ∨ f = c - 48) := fun f => by
        rw [Nat.testBit_or, Nat.testBit_two_pow, Bool.or_eq_true, decide_eq_true_eq]
        exact ⟨fun z => z.imp id Eq.symm, fun z => z.imp id Eq.symm⟩
      have nb : ∀ f, st.1.testBit f = true → f ≠ c - 48 := fun f hf z => by
        rw [z, d5] at hf
        cases hf
      refine ih (st.1 ||| 2 ^ (c - 48), (fun e => if e = c - 48 then st.2.2.1 else st.2.1 e), st.2.2.1, true) (pairs ||| pwk block (c - 48) 6) (block ||| 2 ^ (c - 48)) ⟨Nat.or_lt_two_pow q1 hpn, Nat.or_lt_two_pow (n := 15) q2 (pwk_lt he6 6 (Nat.le_refl _)), Nat.or_lt_two_pow q3 hpn, fun f hf => ?_, fun f => ?_, ?_, fun i j hij hj => ?_⟩ hRR
      · show (if f = c - 48 then st.2.2.1 else st.2.1 f) ≤ st.2.2.1
        by_cases hx : f = c - 48
        · rw [if_pos hx]
          exact Nat.le_refl _
        · rw [if_neg hx]
          rcases (sb f).mp hf with z | z
          · exact q4 f z
          · exact absurd z hx
      · show _ ↔ ((st.1 ||| 2 ^ (c - 48)).testBit f = true ∧ (if f = c - 48 then st.2.2.1 else st.2.1 f) = st.2.2.1)
        rw [Nat.testBit_or, Nat.testBit_two_pow, Bool.or_eq_true, decide_eq_true_eq, sb, q5 f]
        by_cases hx : f = c - 48
        · rw [if_pos hx]
          exact ⟨fun _ => ⟨Or.inr hx, rfl⟩, fun _ => Or.inr hx.symm⟩
        · rw [if_neg hx]
          constructor
          · rintro (z | z)
            · exact ⟨Or.inl z.1, z.2⟩
            · exact absurd z.symm hx
          · rintro ⟨z | z, z2⟩
            · exact Or.inl ⟨z, z2⟩
            · exact absurd z hx
      · refine ⟨fun _ z => ?_, fun _ => rfl⟩
        have h1 : (block ||| 2 ^ (c - 48)).testBit (c - 48) = true := by
          rw [Nat.testBit_or, Nat.testBit_two_pow]
          simp
        rw [z, Nat.zero_testBit] at h1
        cases h1
      · show _ ↔ ((st.1 ||| 2 ^ (c - 48)).testBit i = true ∧ (st.1 ||| 2 ^ (c - 48)).testBit j = true ∧ (if i = c - 48 then st.2.2.1 else st.2.1 i) = (if j = c - 48 then st.2.2.1 else st.2.1 j))
        rw [Nat.testBit_or, Bool.or_eq_true, q7 i j hij hj, pwk_bit he6 hij hj 6 (Nat.le_refl _), sb, sb, q5 i, q5 j]
        by_cases hi : i = c - 48
        · have hj' : j ≠ c - 48 := by omega
          rw [if_pos hi, if_neg hj']
          constructor
          · rintro (z | z | z)
            · exact absurd hi (nb i z.1)
            · exact ⟨Or.inr hi, Or.inl z.2.2.1, z.2.2.2.symm⟩
            · exact absurd z.1 hj'
          · rintro ⟨_, z | z, z2⟩
            · exact Or.inr (Or.inl ⟨hi, by omega, z, z2.symm⟩)
            · exact absurd z hj'
        · rw [if_neg hi]
          by_cases hj' : j = c - 48
          · rw [if_pos hj']
            constructor
            · rintro (z | z | z)
              · exact absurd hj' (nb j z.2.1)
              · exact absurd z.1 hi
              · exact ⟨Or.inl z.2.2.1, Or.inr hj', z.2.2.2⟩
            · rintro ⟨z | z, _, z2⟩
              · exact Or.inr (Or.inr ⟨hj', by omega, z, z2⟩)
              · exact absurd z hi
          · rw [if_neg hj']
            constructor
            · rintro (z | z | z)
              · exact ⟨Or.inl z.1, Or.inl z.2.1, z.2.2⟩
              · exact absurd z.1 hi
              · exact absurd z.1 hj'
            · rintro ⟨z | z, z1 | z1, z2⟩
              · exact Or.inl ⟨z, z1, z2⟩
              · exact absurd z1 hj'
              · exact absurd z hi
              · exact absurd z hi
theorem m7_read {h : zw_H} {A : zA} {t : Int32} (W : CW h A) : zcI 5 mX7_read [.ref 0, .int t] h (opC h (oRd A t)) := by
  have n1 := W.1.1.1
  have n2 := W.1.1.2.1
  unfold oRd
  refine zcI_of rfl pn_X7 (fun _ => Nat.le_of_ble_eq_true rfl) rfl (rX7_read_0 (ca (c_X7_isRegister h t) ⟨fun c => ?_, fun c => ?_⟩))
  · obtain ⟨t', t1, rfl⟩ := bI_yes c
    rw [ri_nI t1 (by omega), W.2.2.1.1]
    dsimp only
    refine ca (c_X6_parse W) ?_
    have h20 := W.1.2.2.1
    cases hR : rdR A with
    | inl f =>
      have hf := pzR_lt hR
      have neg : ∀ f, f < 21 → ¬ (0 : Int32) ≤ (-10 : Int32) - nI f := by decide
      exact ⟨fun c2 => absurd c2 (neg f (by omega)), fun _ => W.same _⟩
    | inr w =>
      have hg := (canon_spec w n1 n2).1
      have hm := km_lt n1 n2 hg
      refine ⟨fun _ => c_put W Fr.rf t1 hg, fun c2 => absurd ?_ c2⟩
      exact nI_le (a := 0) (Nat.zero_le _) (by omega)
  · rw [(ri_none (by omega)).mpr (bI_0.mp c)]
    exact W.same _
