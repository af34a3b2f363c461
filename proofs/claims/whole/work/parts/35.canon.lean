theorem kT_ext : ([1, 2, 3, 4, 5].all fun m => (kT m).all fun t => (List.range (kb m t m + 1)).all fun l => decide (l < 6) && (kT (m + 1)).contains (6 * t + l)) = true := by decide +kernel
theorem kd_lt : (k6.all fun n => (kT n).all fun t => (List.range n).all fun e => decide (kd n t e < kb n t n)) = true := by decide +kernel
theorem ks_ltB {n g e : Nat} (h1 : 1 ≤ n) (h2 : n ≤ 6) (hg : g < kN n) (he : e < n) : ks n g e < kB n g := of_decide_eq_true (List.all_eq_true.mp (k6_all kd_lt h1 h2 hg) e (List.mem_range.mpr he))
theorem kt_mem {n g : Nat} (hg : g < kN n) : kt n g ∈ kT n := by
  unfold kt
  rw [List.getD_eq_getElem?_getD, List.getElem?_eq_getElem hg]
  exact List.getElem_mem hg
theorem kt_of {n t : Nat} (h : t ∈ kT n) : ∃ g, g < kN n ∧ kt n g = t := by
  obtain ⟨g, hg, e⟩ := List.mem_iff_getElem.mp h
  refine ⟨g, hg, ?_⟩
  unfold kt
  rw [List.getD_eq_getElem?_getD, List.getElem?_eq_getElem hg]
  exact e
theorem kd_ext {m t l i : Nat} (hl : l < 6) (hi : i < m) : kd (m + 1) (6 * t + l) i = kd m t i := by
  unfold kd
  rw [show m + 1 - 1 - i = (m - 1 - i) + 1 by omega, Nat.pow_succ', ← Nat.div_div_eq_div_mul]
  rw [show (6 * t + l) / 6 = t by omega]
theorem kd_ext' {m t l : Nat} (hl : l < 6) : kd (m + 1) (6 * t + l) m = l := by
  unfold kd
  rw [show m + 1 - 1 - m = 0 by omega, Nat.pow_zero, Nat.div_one]
  omega
theorem ext_ex {m g l : Nat} (h1 : 1 ≤ m) (h2 : m ≤ 5) (hg : g < kN m) (hl : l ≤ kB m g) : ∃ g', g' < kN (m + 1) ∧ (∀ i, i < m → ks (m + 1) g' i = ks m g i) ∧ ks (m + 1) g' m = l := by
  have hm : m ∈ [1, 2, 3, 4, 5] := by
    rcases (show m = 1 ∨ m = 2 ∨ m = 3 ∨ m = 4 ∨ m = 5 by omega) with rfl | rfl | rfl | rfl | rfl <;> decide
  have h := List.all_eq_true.mp (List.all_eq_true.mp (List.all_eq_true.mp kT_ext m hm) _ (kt_mem hg)) l (List.mem_range.mpr (by unfold kB at hl; omega))
  rw [Bool.and_eq_true, decide_eq_true_eq, List.contains_iff_mem] at h
  obtain ⟨g', hg', e⟩ := kt_of h.2
  refine ⟨g', hg', fun i hi => ?_, ?_⟩
  · unfold ks
    rw [e, kd_ext h.1 hi]
  · unfold ks
    rw [e, kd_ext' h.1]
/-- whatever the blocks are called, it's one of the partitions -/
theorem canon_ex {α : Type} (W : Nat → α) : ∀ n, 1 ≤ n → n ≤ 6 → ∃ g, g < kN n ∧ ∀ i j, i < n → j < n → (W i = W j ↔ ks n g i = ks n g j)
  | 0, h, _ => absurd h (by omega)
  | 1, _, _ => ⟨0, by decide, fun i j hi hj => by
    have : i = j := by omega
    subst this
    exact ⟨fun _ => rfl, fun _ => rfl⟩⟩
  | m + 2, _, h2 => by
    obtain ⟨g, hg, hw⟩ := canon_ex W (m + 1) (by omega) (by omega)
    by_cases hx : ∃ i, i < m + 1 ∧ W i = W (m + 1)
    · obtain ⟨k, hk, e⟩ := hx
      obtain ⟨g', hg', x1, x2⟩ := ext_ex (l := ks (m + 1) g k) (by omega) (by omega) hg (Nat.le_of_lt (ks_ltB (by omega) (by omega) hg hk))
      have key : ∀ i, i < m + 1 → (W i = W (m + 1) ↔ ks (m + 2) g' i = ks (m + 2) g' (m + 1)) := fun i hi => by
        rw [x1 i hi, x2, ← e]
        exact hw i k hi hk
      refine ⟨g', hg', fun i j hi hj => ?_⟩
      by_cases hi2 : i = m + 1
      · by_cases hj2 : j = m + 1
        · rw [hi2, hj2]
          exact ⟨fun _ => rfl, fun _ => rfl⟩
        · rw [hi2]
          have := key j (by omega)
          exact ⟨fun z => (this.mp z.symm).symm, fun z => (this.mpr z.symm).symm⟩
      · by_cases hj2 : j = m + 1
        · rw [hj2]
          exact key i (by omega)
        · rw [x1 i (by omega), x1 j (by omega)]
          exact hw i j (by omega) (by omega)
    · obtain ⟨g', hg', x1, x2⟩ := ext_ex (l := kB (m + 1) g) (by omega) (by omega) hg (Nat.le_refl _)
      have key : ∀ i, i < m + 1 → (W i = W (m + 1) ↔ ks (m + 2) g' i = ks (m + 2) g' (m + 1)) := fun i hi => by
        have hb := ks_ltB (show 1 ≤ m + 1 by omega) (by omega) hg hi
        rw [x1 i hi, x2]
        exact ⟨fun z => absurd ⟨i, hi, z⟩ hx, fun z => absurd z (by omega)⟩
      refine ⟨g', hg', fun i j hi hj => ?_⟩
      by_cases hi2 : i = m + 1
      · by_cases hj2 : j = m + 1
        · rw [hi2, hj2]
          exact ⟨fun _ => rfl, fun _ => rfl⟩
        · rw [hi2]
          have := key j (by omega)
          exact ⟨fun z => (this.mp z.symm).symm, fun z => (this.mpr z.symm).symm⟩
      · by_cases hj2 : j = m + 1
        · rw [hj2]
          exact key i (by omega)
        · rw [x1 i (by omega), x1 j (by omega)]
          exact hw i j (by omega) (by omega)
/-- the partition with the blocks W -/
noncomputable def canon {α : Type} (n : Nat) (W : Nat → α) : Nat := by classical exact if h : ∃ g, g < kN n ∧ ∀ i j, i < n → j < n → (W i = W j ↔ ks n g i = ks n g j) then Classical.choose h else 0
theorem canon_spec {α : Type} {n : Nat} (W : Nat → α) (h1 : 1 ≤ n) (h2 : n ≤ 6) : canon n W < kN n ∧ ∀ i j, i < n → j < n → (W i = W j ↔ ks n (canon n W) i = ks n (canon n W) j) := by
  have h := canon_ex W n h1 h2
  unfold canon
  rw [dif_pos h]
  exact Classical.choose_spec h
theorem canon_eq {α : Type} {n g : Nat} {W : Nat → α} (h1 : 1 ≤ n) (h2 : n ≤ 6) (hg : g < kN n) (e : ∀ i j, i < j → j < n → (W i = W j ↔ ks n g i = ks n g j)) : canon n W = g := by
  obtain ⟨x1, x2⟩ := canon_spec W h1 h2
  exact ks_inj h1 h2 x1 hg (fun i j hi hj => (x2 i j (by omega) hj).symm.trans (e i j hi hj))
/-- an int as a place below n -/
def ri (n : Nat) (r : Int32) : Option Nat := if 0 ≤ r.toInt ∧ r.toInt < n then some r.toInt.toNat else none
theorem ri_some {n k : Nat} {r : Int32} (h : ri n r = some k) : k < n ∧ r = nI k := by
  unfold ri at h
  by_cases hx : 0 ≤ r.toInt ∧ r.toInt < n
  · rw [if_pos hx] at h
    cases h
    refine ⟨by omega, ?_⟩
    have h2 := fb_rng r
    apply Int32.toInt_inj.mp
    rw [nI_toInt (by omega)]
    omega
  · rw [if_neg hx] at h
    cases h
theorem ri_nI {n k : Nat} (h : k < n) (hn : n < 2147483648) : ri n (nI k) = some k := by
  unfold ri
  rw [nI_toInt (by omega), if_pos (by omega)]
  rfl
theorem ri_iR {n : Nat} {r : Int32} (hn : n < 2147483648) : iR r n ↔ ∃ k, ri n r = some k := by
  constructor
  · rintro ⟨k, hk, rfl⟩
    exact ⟨k, ri_nI hk hn⟩
  · rintro ⟨k, h⟩
    exact ⟨k, ri_some h⟩
theorem ri_none {n : Nat} {r : Int32} (hn : n < 2147483648) : ri n r = none ↔ ¬ iR r n := by
  rw [ri_iR hn]
  cases ri n r with
  | none => exact ⟨fun _ ⟨k, h⟩ => (by cases h), fun _ => rfl⟩
  | some k => exact ⟨fun h => (by cases h), fun h => absurd ⟨k, rfl⟩ h⟩
/-- BAD, EMPTY, or 0 -/
def wr1 (s : zS) (r : Int32) : Int32 := match ri 8 r with
  | none => -1
  | some a => if (s.2.2.2.2.2.2 a).isSome then 0 else -2
def wr2 (s : zS) (r q : Int32) : Int32 := match ri 8 r, ri 8 q with
  | some a, some b => if (s.2.2.2.2.2.2 a).isSome ∧ (s.2.2.2.2.2.2 b).isSome then 0 else -2
  | _, _ => -1
/-- the partition that a register holds -/
def rgt (s : zS) (r : Int32) : Nat := match ri 8 r with
  | none => 0
  | some a => (s.2.2.2.2.2.2 a).getD 0
theorem wr1_0 {s : zS} {r : Int32} (h : wr1 s r = 0) : ∃ a, a < 8 ∧ r = nI a ∧ s.2.2.2.2.2.2 a = some (rgt s r) := by
  unfold wr1 at h
  unfold rgt
  cases hr : ri 8 r with
  | none => rw [hr] at h; exact absurd (show (-1 : Int32) = 0 from h) (by decide)
  | some a =>
    rw [hr] at h
    obtain ⟨h1, h2⟩ := ri_some hr
    refine ⟨a, h1, h2, ?_⟩
    dsimp only at h ⊢
    cases hx : s.2.2.2.2.2.2 a with
    | none => rw [hx] at h; exact absurd h (by decide)
    | some g => rfl
theorem wr2_0 {s : zS} {r q : Int32} (h : wr2 s r q = 0) : wr1 s r = 0 ∧ wr1 s q = 0 := by
  unfold wr2 at h
  unfold wr1
  cases hr : ri 8 r with
  | none => rw [hr] at h; exact absurd (show (-1 : Int32) = 0 from h) (by decide)
  | some a =>
    cases hq : ri 8 q with
    | none => rw [hr, hq] at h; exact absurd (show (-1 : Int32) = 0 from h) (by decide)
    | some b =>
      rw [hr, hq] at h
      dsimp only at h ⊢
      by_cases hx : (s.2.2.2.2.2.2 a).isSome = true ∧ (s.2.2.2.2.2.2 b).isSome = true
      · rw [if_pos hx.1, if_pos hx.2]
        exact ⟨rfl, rfl⟩
      · rw [if_neg hx] at h
        exact absurd h (by decide)
/-- STATE, if one isn't admitted -/
def wr3 (s : zS) (r q : Int32) : Int32 := if wr2 s r q = 0 then (if adm s (rgt s r) = true ∧ adm s (rgt s q) = true then 0 else -3) else wr2 s r q
