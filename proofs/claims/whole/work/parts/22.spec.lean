/-- the ground set and the restrictions: n, sizes, numbers, apart, together, noncrossing, registers -/
abbrev zS : Type := Nat × Nat × Nat × Nat × Nat × Nat × (Nat → Option Nat)
def fs (c : Nat → Bool) (lo : Nat) : Nat → Option Nat
  | 0 => none
  | m + 1 => if c lo then some lo else fs c (lo + 1) m
theorem fs_step {c : Nat → Bool} {lo B : Nat} (h : lo < B) : fs c lo (B - lo) = if c lo then some lo else fs c (lo + 1) (B - (lo + 1)) := by
  rw [show B - lo = (B - (lo + 1)) + 1 by omega, fs]
theorem fs_end {c : Nat → Bool} {lo B : Nat} (h : B ≤ lo) : fs c lo (B - lo) = none := by
  rw [show B - lo = 0 by omega, fs]
theorem fs_some {c : Nat → Bool} : ∀ {m lo b : Nat}, fs c lo m = some b → lo ≤ b ∧ b < lo + m ∧ c b = true ∧ ∀ i, lo ≤ i → i < b → c i = false
  | 0, lo, b, h => by cases h
  | m + 1, lo, b, h => by
    rw [fs] at h
    by_cases hc : c lo = true
    · rw [if_pos hc] at h
      cases h
      exact ⟨Nat.le_refl _, by omega, hc, fun i h1 h2 => absurd h1 (by omega)⟩
    · rw [if_neg hc] at h
      obtain ⟨h1, h2, h3, h4⟩ := fs_some h
      refine ⟨by omega, by omega, h3, fun i h5 h6 => ?_⟩
      by_cases hi : i = lo
      · subst hi
        exact Bool.eq_false_iff.mpr hc
      · exact h4 i (by omega) h6
theorem fs_none {c : Nat → Bool} : ∀ {m lo : Nat}, fs c lo m = none ↔ ∀ i, lo ≤ i → i < lo + m → c i = false
  | 0, lo => ⟨fun _ i h1 h2 => absurd h1 (by omega), fun _ => rfl⟩
  | m + 1, lo => by
    rw [fs]
    by_cases hc : c lo = true
    · rw [if_pos hc]
      exact ⟨fun h => (by cases h), fun h => (by rw [h lo (by omega) (by omega)] at hc; cases hc)⟩
    · rw [if_neg hc, fs_none]
      refine ⟨fun h i h1 h2 => ?_, fun h i h1 h2 => h i (by omega) (by omega)⟩
      by_cases hi : i = lo
      · subst hi
        exact Bool.eq_false_iff.mpr hc
      · exact h i (by omega) (by omega)
def fs2 (c : Nat → Nat → Bool) (B lo : Nat) : Nat → Option (Nat × Nat)
  | 0 => none
  | m + 1 => match fs (c lo) (lo + 1) (B - (lo + 1)) with
    | some q => some (lo, q)
    | none => fs2 c B (lo + 1) m
theorem fs2_step {c : Nat → Nat → Bool} {lo B : Nat} (h : lo < B) : fs2 c B lo (B - lo) = match fs (c lo) (lo + 1) (B - (lo + 1)) with
    | some q => some (lo, q)
    | none => fs2 c B (lo + 1) (B - (lo + 1)) := by
  rw [show B - lo = (B - (lo + 1)) + 1 by omega, fs2]
theorem fs2_end {c : Nat → Nat → Bool} {lo B : Nat} (h : B ≤ lo) : fs2 c B lo (B - lo) = none := by
  rw [show B - lo = 0 by omega, fs2]
theorem fs2_some {c : Nat → Nat → Bool} {B : Nat} : ∀ {m lo : Nat} {p q : Nat}, lo + m = B → fs2 c B lo m = some (p, q) → lo ≤ p ∧ p < q ∧ q < B ∧ c p q = true ∧ ∀ i j, lo ≤ i → i < j → j < B → (i < p ∨ i = p ∧ j < q) → c i j = false
  | 0, lo, p, q, _, h => by cases h
  | m + 1, lo, p, q, hB, h => by
    rw [fs2] at h
    cases hf : fs (c lo) (lo + 1) (B - (lo + 1)) with
    | some r =>
      rw [hf] at h
      cases h
      obtain ⟨h1, h2, h3, h4⟩ := fs_some hf
      refine ⟨Nat.le_refl _, by omega, by omega, h3, fun i j h5 h6 h7 h8 => ?_⟩
      rcases h8 with h8 | ⟨rfl, h8⟩
      · omega
      · exact h4 j (by omega) h8
    | none =>
      rw [hf] at h
      obtain ⟨h1, h2, h3, h4, h5⟩ := fs2_some (by omega) h
      refine ⟨by omega, h2, h3, h4, fun i j h6 h7 h8 h9 => ?_⟩
      by_cases hi : i = lo
      · subst hi
        exact fs_none.mp hf j (by omega) (by omega)
      · exact h5 i j (by omega) h7 h8 h9
theorem fs2_none {c : Nat → Nat → Bool} {B : Nat} : ∀ {m lo : Nat}, lo + m = B → (fs2 c B lo m = none ↔ ∀ i j, lo ≤ i → i < j → j < B → c i j = false)
  | 0, lo, hB => ⟨fun _ i j h1 h2 h3 => absurd h1 (by omega), fun _ => rfl⟩
  | m + 1, lo, hB => by
    rw [fs2]
    cases hf : fs (c lo) (lo + 1) (B - (lo + 1)) with
    | some r =>
      obtain ⟨h1, h2, h3, h4⟩ := fs_some hf
      exact ⟨fun h => (by cases h), fun h => by rw [h lo r (by omega) (by omega) (by omega)] at h3; cases h3⟩
    | none =>
      have := fs2_none (c := c) (B := B) (m := m) (lo := lo + 1) (by omega)
      show fs2 c B (lo + 1) m = none ↔ _
      rw [this]
      refine ⟨fun h i j h1 h2 h3 => ?_, fun h i j h1 h2 h3 => h i j (by omega) h2 h3⟩
      by_cases hi : i = lo
      · subst hi
        exact fs_none.mp hf j (by omega) (by omega)
      · exact h i j (by omega) h2 h3
def enc1 : Option Nat → Int32
  | none => -9
  | some b => nI b
def enc2 : Option (Nat × Nat) → Int32
  | none => -9
  | some (p, q) => nI (10 * p + q)
theorem nI_9 {b : Nat} (h : b < 2147483648) : ¬ nI b = -9 := by
  intro h2
  have h3 : (nI b).toInt = (-9 : Int32).toInt := by rw [h2]
  rw [nI_toInt h] at h3
  have : (-9 : Int32).toInt = -9 := by decide
  omega
/-- how many elements the block b has -/
def kz (n g b : Nat) : Nat := fb_ct (fun e => decide (ks n g e = b)) n
/-- turns and last side, of the blocks p and q, over the first elements -/
def kc (n t p q : Nat) : Nat → Nat × Nat
  | 0 => (0, 0)
  | e + 1 =>
    if kd n t e = p then (if (kc n t p q e).2 = 1 then kc n t p q e else ((kc n t p q e).1 + 1, 1))
    else if kd n t e = q then (if (kc n t p q e).2 = 2 then kc n t p q e else ((kc n t p q e).1 + 1, 2))
    else kc n t p q e
def kx (n g p q : Nat) : Bool := decide (4 ≤ (kc n (kt n g) p q n).1)
/-- the first two blocks that cross -/
def kF (n g : Nat) : Option (Nat × Nat) := fs2 (kx n g) (kB n g) 0 (kB n g)
/-- the first block whose size isn't among those -/
def kS (sz n g : Nat) : Option Nat := fs (fun b => !(sz.testBit (kz n g b))) 0 (kB n g)
/-- the first pair of a set that is in one block (or not) -/
def kPr (set : Nat) (one : Bool) (n g : Nat) : Option (Nat × Nat) := fs2 (fun i j => set.testBit (kp i j) && (decide (ks n g i = ks n g j) == one)) n 0 n
def rsn (s : zS) (g : Nat) : Nat :=
  if (kS s.2.1 s.1 g).isSome then 1
  else if s.2.2.1.testBit (kB s.1 g) = false then 2
  else if (kPr s.2.2.2.1 true s.1 g).isSome then 3
  else if (kPr s.2.2.2.2.1 false s.1 g).isSome then 4
  else if s.2.2.2.2.2.1 = 1 ∧ (kF s.1 g).isSome then 5 else 0
def adm (s : zS) (g : Nat) : Bool := decide (rsn s g = 0)
def plc (s : zS) (g : Nat) : Int32 :=
  if rsn s g = 1 then enc1 (kS s.2.1 s.1 g)
  else if rsn s g = 2 then nI (kB s.1 g)
  else if rsn s g = 3 then enc2 (kPr s.2.2.2.1 true s.1 g)
  else if rsn s g = 4 then enc2 (kPr s.2.2.2.2.1 false s.1 g)
  else if rsn s g = 5 then enc2 (kF s.1 g) else -9
/-- the index of an admitted partition; how many there are -/
def ix (s : zS) (g : Nat) : Nat := fb_ct (adm s) g
def cnt (s : zS) : Nat := fb_ct (adm s) (kN s.1)
theorem kB_facts : (k6.all fun n => (kT n).all fun t => decide (kb n t n ≤ n) && decide (1 ≤ kb n t n)) = true := by decide +kernel
theorem kB_le {n g : Nat} (h1 : 1 ≤ n) (h2 : n ≤ 6) (hg : g < kN n) : 1 ≤ kB n g ∧ kB n g ≤ n := by
  have h := k6_all kB_facts h1 h2 hg
  rw [Bool.and_eq_true, decide_eq_true_eq, decide_eq_true_eq] at h
  exact ⟨h.2, h.1⟩
theorem kS_lt {sz n g b : Nat} (h : kS sz n g = some b) : b < kB n g := by
  have := (fs_some h).2.1
  omega
theorem kF_lt {n g p q : Nat} (h : kF n g = some (p, q)) : p < q ∧ q < kB n g := by
  have h1 := fs2_some (by omega) h
  exact ⟨h1.2.1, h1.2.2.1⟩
theorem kPr_lt {set n g p q : Nat} {one : Bool} (h : kPr set one n g = some (p, q)) : p < q ∧ q < n := by
  have h1 := fs2_some (by omega) h
  exact ⟨h1.2.1, h1.2.2.1⟩
theorem enc1_9 {o : Option Nat} (h : ∀ b, o = some b → b < 2147483648) : enc1 o = -9 ↔ o = none := by
  cases o with
  | none => exact ⟨fun _ => rfl, fun _ => rfl⟩
  | some b => exact ⟨fun h2 => absurd h2 (nI_9 (h b rfl)), fun h2 => by cases h2⟩
theorem enc2_9 {o : Option (Nat × Nat)} (h : ∀ p q, o = some (p, q) → p < 100 ∧ q < 100) : enc2 o = -9 ↔ o = none := by
  cases o with
  | none => exact ⟨fun _ => rfl, fun _ => rfl⟩
  | some b =>
    obtain ⟨p, q⟩ := b
    have := h p q rfl
    exact ⟨fun h2 => absurd h2 (nI_9 (by omega)), fun h2 => by cases h2⟩
theorem none_some {α : Type} {o : Option α} : o = none ↔ ¬ o.isSome = true := by cases o <;> simp
theorem ks_lt {n g e : Nat} (h1 : 1 ≤ n) (h2 : n ≤ 6) (hg : g < kN n) (he : e < n) : ks n g e < n := by
  have := ks_grow h1 h2 hg he
  omega
