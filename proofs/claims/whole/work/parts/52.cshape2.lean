theorem ke_tab : (k6.all fun n => (kT n).all fun t => (List.range 6).all fun b => decide (ke n t b n < 64) && (decide (pop (ke n t b n) 15 = fb_ct (fun e => decide (kd n t e = b)) n) && (List.range 6).all fun e => (ke n t b n).testBit e == (decide (e < n) && decide (kd n t e = b)))) = true := by decide +kernel
theorem kE_tab {n g b : Nat} (h1 : 1 ≤ n) (h2 : n ≤ 6) (hg : g < kN n) (hb : b < 6) : kE n g b < 64 ∧ pop (kE n g b) 15 = kz n g b ∧ ∀ e, e < 6 → (kE n g b).testBit e = (decide (e < n) && decide (ks n g e = b)) := by
  have h := List.all_eq_true.mp (k6_all ke_tab h1 h2 hg) b (List.mem_range.mpr hb)
  rw [Bool.and_eq_true, Bool.and_eq_true, decide_eq_true_eq, decide_eq_true_eq] at h
  exact ⟨h.1, h.2.1, fun e he => eq_of_beq (List.all_eq_true.mp h.2.2 e (List.mem_range.mpr he))⟩
theorem c_bc {h : zw_H} {m : Nat} (hm : m < 32768) : zpI 0 mJ6_bitCount_0f7a4 [.int (nI m)] h (nI (pop m 15)) := by
  have := c_bitCount (h := h) (x := nI m)
  rw [bcF_eq hm] at this
  exact this
theorem c_bcE {h : zw_H} {n g b : Nat} (h1 : 1 ≤ n) (h2 : n ≤ 6) (hg : g < kN n) (hb : b < 6) : zpI 0 mJ6_bitCount_0f7a4 [.int (nI (kE n g b))] h (nI (kz n g b)) := by
  obtain ⟨k1, k2, k3⟩ := kE_tab h1 h2 hg hb
  rw [← k2]
  exact c_bc (by omega)
def gnF (n t : Nat) : Nat → Nat
  | 0 => 0
  | e + 1 => gnF n t e * 6 + kd n t e
theorem gn_tab : (k6.all fun n => (kT n).all fun t => decide (gnF n t n = t)) = true := by decide +kernel
section SH
variable {h : zw_H} {o la ma n g : Nat}
theorem c_X3_growthNumber (ho : zSH[o]? = some (.inl (3, [some (some la), some (some ma), none, none]))) (hla : zSH[la]? = some (.inr (0, 6, fun _ => none))) (hma : zSH[ma]? = some (.inr (0, 6, fun _ => none))) (h1 : 1 ≤ n) (h2 : n ≤ 6) (hg : g < kN n) (S : SP h o la ma n g) : zpI 0 mX3_growthNumber [.ref o] h (nI (kt n g)) := by
  refine zcI_of rfl pn_X3 (fun _ => Nat.le_of_ble_eq_true rfl) rfl (rX3_growthNumber_0 ho hla hma ?_)
  have hk : gnF n (kt n g) n = kt n g := of_decide_eq_true (k6_all gn_tab h1 h2 hg)
  refine lp_up (P := fun e => zwI 0 mX3_growthNumber (fun x h' => x = nI (kt n g) ∧ h' = h) 4 [(0, .ref o), (1, .int (nI (gnF n (kt n g) e))), (2, .int (nI e))] [] h) (N := n) ?_ ?_ 0 (by omega)
  · refine rX3_growthNumber_4 ho hla hma ⟨fun _ => ⟨by rw [hk], rfl⟩, fun c => absurd (by rw [S.1]; exact nI_le (Nat.le_refl _) (by omega)) c⟩
  · intro e he ih
    refine rX3_growthNumber_4 ho hla hma ⟨fun c => ?_, fun _ => ⟨e, rfl, by omega, ?_⟩⟩
    · rw [S.1] at c
      have := zle c
      omega
    · rw [S.2.2.1 e he, show (6 : Int32) = nI 6 from rfl, pk_mul, nI_add, nI_1]
      exact ih
def szF (n g : Nat) : Nat → Nat
  | 0 => 0
  | b + 1 => szF n g b ||| 2 ^ kz n g b
/-- the sizes of the blocks -/
def szs (n g : Nat) : Nat := szF n g (kB n g)
theorem szF_lt (n g : Nat) (h : n ≤ 6) : ∀ b, szF n g b < 2 ^ 7
  | 0 => show 0 < 2 ^ 7 by decide
  | b + 1 => Nat.or_lt_two_pow (szF_lt n g h b) (Nat.pow_lt_pow_right (by decide) (by have := kz_le n g b; omega))
theorem szF_bit (n g s : Nat) : ∀ b, (szF n g b).testBit s = true ↔ ∃ b', b' < b ∧ kz n g b' = s
  | 0 => ⟨fun h => (by rw [szF, Nat.zero_testBit] at h; cases h), fun ⟨b', h, _⟩ => absurd h (by omega)⟩
  | b + 1 => by
    rw [szF, Nat.testBit_or, Bool.or_eq_true, szF_bit n g s b, Nat.testBit_two_pow, decide_eq_true_eq]
    constructor
    · rintro (⟨b', h1, h2⟩ | h)
      · exact ⟨b', by omega, h2⟩
      · exact ⟨b, by omega, h⟩
    · rintro ⟨b', h1, h2⟩
      by_cases hx : b' = b
      · rw [hx] at h2
        exact Or.inr h2
      · exact Or.inl ⟨b', by omega, h2⟩
theorem c_X3_sizeSet (ho : zSH[o]? = some (.inl (3, [some (some la), some (some ma), none, none]))) (hla : zSH[la]? = some (.inr (0, 6, fun _ => none))) (hma : zSH[ma]? = some (.inr (0, 6, fun _ => none))) (h1 : 1 ≤ n) (h2 : n ≤ 6) (hg : g < kN n) (S : SP h o la ma n g) : zpI 1 mX3_sizeSet [.ref o] h (nI (szs n g)) := by
  have hB := kB_le h1 h2 hg
  refine zcI_of rfl pn_X3 (fun _ => Nat.le_of_ble_eq_true rfl) rfl (rX3_sizeSet_0 ho hla hma ?_)
  generalize hr : nI (szs n g) = res
  refine lp_up (P := fun b => zwI 1 mX3_sizeSet (fun x h' => x = res ∧ h' = h) 4 [(0, .ref o), (1, .int (nI (szF n g b))), (2, .int (nI b))] [] h) (N := kB n g) ?_ ?_ 0 (by omega)
  · exact rX3_sizeSet_4 ho hla hma ⟨fun _ => ⟨hr, rfl⟩, fun c => absurd (by rw [S.2.1]; exact nI_le (Nat.le_refl _) (by omega)) c⟩
  · intro b hb ih
    have hk := kz_le n g b
    refine rX3_sizeSet_4 ho hla hma ⟨fun c => ?_, fun _ => ⟨b, rfl, by omega, ?_⟩⟩
    · rw [S.2.1] at c
      have := zle c
      omega
    · rw [S.2.2.2 b hb]
      refine ca (c_bcE h1 h2 hg (by omega)) ?_
      rw [zone (by omega), zor, nI_1]
      exact ih
theorem c_X3_typeNumber (ho : zSH[o]? = some (.inl (3, [some (some la), some (some ma), none, none]))) (hla : zSH[la]? = some (.inr (0, 6, fun _ => none))) (hma : zSH[ma]? = some (.inr (0, 6, fun _ => none))) (h1 : 1 ≤ n) (h2 : n ≤ 6) (hg : g < kN n) (S : SP h o la ma n g) : zpI 1 mX3_typeNumber [.ref o] h (tyS n g (kB n g)) := by
  have hB := kB_le h1 h2 hg
  refine zcI_of rfl pn_X3 (fun _ => Nat.le_of_ble_eq_true rfl) rfl (rX3_typeNumber_0 ho hla hma ?_)
  generalize hr : tyS n g (kB n g) = res
  refine lp_up (P := fun b => zwI 1 mX3_typeNumber (fun x h' => x = res ∧ h' = h) 4 [(0, .ref o), (1, .int (tyS n g b)), (2, .int (nI b))] [] h) (N := kB n g) ?_ ?_ 0 (by omega)
  · exact rX3_typeNumber_4 ho hla hma ⟨fun _ => ⟨hr, rfl⟩, fun c => absurd (by rw [S.2.1]; exact nI_le (Nat.le_refl _) (by omega)) c⟩
  · intro b hb ih
    refine rX3_typeNumber_4 ho hla hma ⟨fun c => ?_, fun _ => ⟨b, rfl, by omega, ?_⟩⟩
    · rw [S.2.1] at c
      have := zle c
      omega
    · rw [S.2.2.2 b hb]
      refine ca (c_bcE h1 h2 hg (by omega)) ?_
      rw [nI_1]
      exact ih
theorem c_X3_firstBlockNotIn {sz : Nat} (ho : zSH[o]? = some (.inl (3, [some (some la), some (some ma), none, none]))) (hla : zSH[la]? = some (.inr (0, 6, fun _ => none))) (hma : zSH[ma]? = some (.inr (0, 6, fun _ => none))) (h1 : 1 ≤ n) (h2 : n ≤ 6) (hg : g < kN n) (hz : sz < 128) (S : SP h o la ma n g) : zpI 1 mX3_firstBlockNotIn [.ref o, .int (nI sz)] h (enc1 (kS sz n g)) := by
  have hB := kB_le h1 h2 hg
  refine zcI_of rfl pn_X3 (fun _ => Nat.le_of_ble_eq_true rfl) rfl (rX3_firstBlockNotIn_0 ho hla hma ?_)
  refine lp_up (P := fun b => zwI 1 mX3_firstBlockNotIn (fun x h' => x = enc1 (fs (fun b => !(sz.testBit (kz n g b))) b (kB n g - b)) ∧ h' = h) 2 [(0, .ref o), (1, .int (nI sz)), (2, .int (nI b))] [] h) (N := kB n g) ?_ ?_ 0 (by omega)
  · exact rX3_firstBlockNotIn_2 ho hla hma ⟨fun _ => ⟨by rw [fs_end (Nat.le_refl _)]; rfl, rfl⟩, fun c => absurd (by rw [S.2.1]; exact nI_le (Nat.le_refl _) (by omega)) c⟩
  · intro b hb ih
    have hk := kz_le n g b
    refine rX3_firstBlockNotIn_2 ho hla hma ⟨fun c => ?_, fun _ => ⟨b, rfl, by omega, ?_⟩⟩
    · rw [S.2.1] at c
      have := zle c
      omega
    · rw [S.2.2.2 b hb]
      refine ca (c_bcE h1 h2 hg (by omega)) ⟨fun c => ?_, fun c => ⟨?_, rfl⟩⟩
      · have hc : sz.testBit (kz n g b) = true := by
          cases hx : sz.testBit (kz n g b) with
          | true => rfl
          | false => exact absurd ((zbit0 (by omega) (by omega)).mpr hx) c
        rw [fs_step hb, hc, if_neg (by decide), nI_1]
        exact ih
      · rw [fs_step hb, (zbit0 (by omega) (by omega)).mp c]
        rfl
theorem c_X3_areCrossing {p q : Nat} (h1 : 1 ≤ n) (h2 : n ≤ 6) (hg : g < kN n) (hp : p < 6) (hq : q < 6) : zpI 0 mX3_areCrossing [.int (nI (kE n g p)), .int (nI (kE n g q))] h (bI (kx n g p q = true)) := by
  obtain ⟨a1, a2, a3⟩ := kE_tab h1 h2 hg hp
  obtain ⟨b1, b2, b3⟩ := kE_tab h1 h2 hg hq
  refine zcI_of rfl pn_X3 (fun _ => Nat.le_of_ble_eq_true rfl) rfl (rX3_areCrossing_0 ?_)
  generalize hr : bI (kx n g p q = true) = res
  refine lp_up (P := fun e => zwI 0 mX3_areCrossing (fun x h' => x = res ∧ h' = h) 7 [(0, .int (nI (kE n g p))), (1, .int (nI (kE n g q))), (2, .int (nI (kc n (kt n g) p q (min e n)).1)), (3, .int (nI (kc n (kt n g) p q (min e n)).2)), (4, .int (nI e))] [] h) (N := 6) ?_ ?_ 0 (by omega)
  · rw [Nat.min_eq_right h2]
    have hle := kc_1 n (kt n g) p q n
    refine rX3_areCrossing_7 ⟨fun _ => ⟨fun c => ⟨?_, rfl⟩, fun c => ⟨?_, rfl⟩⟩, fun c => absurd (by decide) c⟩
    · have := zlt (b := 4) c
      rw [← hr, bI_f]
      simp only [kx, decide_eq_true_eq]
      omega
    · have := znlt (b := 4) c
      rw [← hr, bI_t]
      simp only [kx, decide_eq_true_eq]
      omega
  · intro e he ih
    have ba := zbit0 (m := kE n g p) (k := e) (by omega) (by omega)
    have bb := zbit0 (m := kE n g q) (k := e) (by omega) (by omega)
    rw [a3 e he] at ba
    rw [b3 e he] at bb
    have hs2 := kc_2 n (kt n g) p q (min e n)
    have e1 : min (e + 1) n = if e < n then min e n + 1 else min e n := by
      split <;> omega
    have mn : e < n → min e n = e := fun z => by omega
    rw [e1] at ih
    -- neither block
    have stay : ¬ (e < n ∧ ks n g e = p) → ¬ (e < n ∧ ks n g e = q) → zwI 0 mX3_areCrossing (fun x h' => x = res ∧ h' = h) 7 [(0, .int (nI (kE n g p))), (1, .int (nI (kE n g q))), (2, .int (nI (kc n (kt n g) p q (min e n)).1)), (3, .int (nI (kc n (kt n g) p q (min e n)).2)), (4, .int (nI e + 1))] [] h := fun n1 n2 => by
      rw [nI_1]
      by_cases hx : e < n
      · rw [if_pos hx, kc, if_neg, if_neg] at ih
        · exact ih
        · intro z; rw [mn hx] at z; exact n2 ⟨hx, z⟩
        · intro z; rw [mn hx] at z; exact n1 ⟨hx, z⟩
      · rw [if_neg hx] at ih
        exact ih
    refine rX3_areCrossing_7 ⟨fun c => ?_, fun _ => ⟨fun c => ⟨fun c2 => ⟨fun _ => ?_, fun z => absurd rfl z⟩, fun c2 => ⟨fun c3 => ?_, fun c3 => ?_⟩⟩, fun c => ⟨fun c3 => ?_, fun c3 => ?_⟩⟩⟩
    · have := zle (a := 6) c
      omega
    · refine stay (fun z => ?_) (fun z => ?_)
      · have := ba.mp c
        simp [z.1, z.2] at this
      · have := bb.mp c2
        simp [z.1, z.2] at this
    · have n1 := ba.mp c
      have n2 : e < n ∧ ks n g e = q := Classical.byContradiction (fun z => c2 (bb.mpr (by
        by_cases hx : e < n <;> by_cases hy : ks n g e = q <;> simp_all)))
      have n3 : ¬ ks n g e = p := fun z => by simp [n2.1, z] at n1
      have c4 : (kc n (kt n g) p q (min e n)).2 = 2 := (zeq (a := 2) c3).symm
      rw [if_pos n2.1, kc, if_neg (by rw [mn n2.1]; exact n3), if_pos (by rw [mn n2.1]; exact n2.2), if_pos c4] at ih
      rw [nI_1]
      exact ih
    · have n1 := ba.mp c
      have n2 : e < n ∧ ks n g e = q := Classical.byContradiction (fun z => c2 (bb.mpr (by
        by_cases hx : e < n <;> by_cases hy : ks n g e = q <;> simp_all)))
      have n3 : ¬ ks n g e = p := fun z => by simp [n2.1, z] at n1
      have c4 : ¬ (kc n (kt n g) p q (min e n)).2 = 2 := fun z => c3 (by rw [z]; rfl)
      rw [if_pos n2.1, kc, if_neg (by rw [mn n2.1]; exact n3), if_pos (by rw [mn n2.1]; exact n2.2), if_neg c4] at ih
      rw [nI_1, nI_1]
      exact ih
    · have n1 : e < n ∧ ks n g e = p := Classical.byContradiction (fun z => c (ba.mpr (by
        by_cases hx : e < n <;> by_cases hy : ks n g e = p <;> simp_all)))
      have c4 : (kc n (kt n g) p q (min e n)).2 = 1 := (zeq (a := 1) c3).symm
      rw [if_pos n1.1, kc, if_pos (by rw [mn n1.1]; exact n1.2), if_pos c4] at ih
      rw [nI_1]
      exact ih
    · have n1 : e < n ∧ ks n g e = p := Classical.byContradiction (fun z => c (ba.mpr (by
        by_cases hx : e < n <;> by_cases hy : ks n g e = p <;> simp_all)))
      have c4 : ¬ (kc n (kt n g) p q (min e n)).2 = 1 := fun z => c3 (by rw [z]; rfl)
      rw [if_pos n1.1, kc, if_pos (by rw [mn n1.1]; exact n1.2), if_neg c4] at ih
      rw [nI_1, nI_1]
      exact ih
theorem c_X3_firstCrossing (ho : zSH[o]? = some (.inl (3, [some (some la), some (some ma), none, none]))) (hla : zSH[la]? = some (.inr (0, 6, fun _ => none))) (hma : zSH[ma]? = some (.inr (0, 6, fun _ => none))) (h1 : 1 ≤ n) (h2 : n ≤ 6) (hg : g < kN n) (S : SP h o la ma n g) : zpI 1 mX3_firstCrossing [.ref o] h (enc2 (kF n g)) := by
  have hB := kB_le h1 h2 hg
  refine zcI_of rfl pn_X3 (fun _ => Nat.le_of_ble_eq_true rfl) rfl (rX3_firstCrossing_0 ho hla hma ?_)
  refine lp_up (P := fun p => zwI 1 mX3_firstCrossing (fun x h' => x = enc2 (fs2 (kx n g) (kB n g) p (kB n g - p)) ∧ h' = h) 2 [(0, .ref o), (1, .int (nI p))] [] h) (N := kB n g) ?_ ?_ 0 (by omega)
  · exact rX3_firstCrossing_2 ho hla hma ⟨fun _ => ⟨by rw [fs2_end (Nat.le_refl _)]; rfl, rfl⟩, fun c => absurd (by rw [S.2.1]; exact nI_le (Nat.le_refl _) (by omega)) c⟩
  · intro p hp ih
    refine rX3_firstCrossing_2 ho hla hma ⟨fun c => ?_, fun _ => ?_⟩
    · rw [S.2.1] at c
      have := zle c
      omega
    · rw [fs2_step hp, nI_1]
      refine lp_up (P := fun q => p < q → zwI 1 mX3_firstCrossing (fun x h' => x = enc2 (match fs (kx n g p) q (kB n g - q) with | some q => some (p, q) | none => fs2 (kx n g) (kB n g) (p + 1) (kB n g - (p + 1))) ∧ h' = h) 14 [(0, .ref o), (1, .int (nI p)), (2, .int (nI q))] [] h) (N := kB n g) ?_ ?_ (p + 1) (by omega) (by omega)
      · intro _
        rw [fs_end (Nat.le_refl _)]
        refine rX3_firstCrossing_14 ho hla hma ⟨fun _ => ?_, fun c => absurd (by rw [S.2.1]; exact nI_le (Nat.le_refl _) (by omega)) c⟩
        rw [nI_1]
        exact ih
      · intro q hq ih2 hpq
        have ih2 := ih2 (by omega)
        refine rX3_firstCrossing_14 ho hla hma ⟨fun c => ?_, fun _ => ⟨p, rfl, by omega, q, rfl, by omega, ?_⟩⟩
        · rw [S.2.1] at c
          have := zle c
          omega
        rw [S.2.2.2 p (by omega), S.2.2.2 q hq]
        refine ca (c_X3_areCrossing h1 h2 hg (by omega) (by omega)) ⟨fun c => ?_, fun c => ⟨?_, rfl⟩⟩
        · rw [fs_step hq, if_neg (bI_0.mp c), nI_1]
          exact ih2
        · rw [fs_step hq, if_pos (bI_yes c), show (10 : Int32) = nI 10 from rfl, pk_mul, nI_add]
          rfl
theorem c_X3_crossingCount (ho : zSH[o]? = some (.inl (3, [some (some la), some (some ma), none, none]))) (hla : zSH[la]? = some (.inr (0, 6, fun _ => none))) (hma : zSH[ma]? = some (.inr (0, 6, fun _ => none))) (h1 : 1 ≤ n) (h2 : n ≤ 6) (hg : g < kN n) (S : SP h o la ma n g) : zpI 1 mX3_crossingCount [.ref o] h (nI (crN n g (kB n g))) := by
  have hB := kB_le h1 h2 hg
  refine zcI_of rfl pn_X3 (fun _ => Nat.le_of_ble_eq_true rfl) rfl (rX3_crossingCount_0 ho hla hma ?_)
  generalize hr : nI (crN n g (kB n g)) = res
  refine lp_up (P := fun p => zwI 1 mX3_crossingCount (fun x h' => x = res ∧ h' = h) 4 [(0, .ref o), (1, .int (nI (crN n g p))), (2, .int (nI p))] [] h) (N := kB n g) ?_ ?_ 0 (by omega)
  · exact rX3_crossingCount_4 ho hla hma ⟨fun _ => ⟨hr, rfl⟩, fun c => absurd (by rw [S.2.1]; exact nI_le (Nat.le_refl _) (by omega)) c⟩
  · intro p hp ih
    refine rX3_crossingCount_4 ho hla hma ⟨fun c => ?_, fun _ => ?_⟩
    · rw [S.2.1] at c
      have := zle c
      omega
    rw [nI_1]
    have ih' : zwI 1 mX3_crossingCount (fun x h' => x = res ∧ h' = h) 4 [(0, .ref o), (1, .int (nI (crN n g p + fb_ct (fun m => kx n g p (p + 1 + m)) (kB n g - (p + 1))))), (2, .int (nI (p + 1)))] [] h := ih
    refine lp_up (P := fun m => zwI 1 mX3_crossingCount (fun x h' => x = res ∧ h' = h) 16 [(0, .ref o), (1, .int (nI (crN n g p + fb_ct (fun m => kx n g p (p + 1 + m)) m))), (2, .int (nI p)), (3, .int (nI (p + 1 + m)))] [] h) (N := kB n g - (p + 1)) ?_ ?_ 0 (by omega)
    · rw [show p + 1 + (kB n g - (p + 1)) = kB n g by omega]
      refine rX3_crossingCount_16 ho hla hma ⟨fun _ => ?_, fun c => absurd (by rw [S.2.1]; exact nI_le (Nat.le_refl _) (by omega)) c⟩
      rw [nI_1]
      exact ih'
    · intro m hm ih2
      refine rX3_crossingCount_16 ho hla hma ⟨fun c => ?_, fun _ => ⟨p, rfl, by omega, p + 1 + m, rfl, by omega, ?_⟩⟩
      · rw [S.2.1] at c
        have := zle c
        omega
      rw [S.2.2.2 p (by omega), S.2.2.2 (p + 1 + m) (by omega)]
      refine ca (c_X3_areCrossing h1 h2 hg (by omega) (by omega)) ⟨fun c2 => ?_, fun c2 => ?_⟩
      · rw [fb_ct_succ, if_neg (bI_0.mp c2)] at ih2
        rw [nI_1]
        exact ih2
      · rw [fb_ct_succ, if_pos (bI_yes c2)] at ih2
        rw [nI_1, nI_1]
        exact ih2
end SH
