theorem lp_up {P : Nat → Prop} {N : Nat} (last : P N) (step : ∀ i, i < N → P (i + 1) → P i) : ∀ i, i ≤ N → P i := by
  have key : ∀ m i, i + m = N → P i := by
    intro m
    induction m with
    | zero => intro i hi; rw [Nat.add_zero] at hi; rw [hi]; exact last
    | succ m ih => intro i hi; exact step i (by omega) (ih (i + 1) (by omega))
  intro i hi
  exact key (N - i) i (by omega)
theorem zle {a b : Nat} (c : nI a ≤ nI b) (ha : a < 2147483648 := by omega) (hb : b < 2147483648 := by omega) : a ≤ b := (nI_leI ha hb).mp c
theorem znle {a b : Nat} (c : ¬ nI a ≤ nI b) (ha : a < 2147483648 := by omega) (hb : b < 2147483648 := by omega) : b < a := Nat.not_le.mp (fun h => c ((nI_leI ha hb).mpr h))
theorem zlt {a b : Nat} (c : nI a < nI b) (ha : a < 2147483648 := by omega) (hb : b < 2147483648 := by omega) : a < b := (nI_ltI ha hb).mp c
theorem znlt {a b : Nat} (c : ¬ nI a < nI b) (ha : a < 2147483648 := by omega) (hb : b < 2147483648 := by omega) : b ≤ a := Nat.not_lt.mp (fun h => c ((nI_ltI ha hb).mpr h))
theorem zeq {a b : Nat} (c : nI a = nI b) (ha : a < 2147483648 := by omega) (hb : b < 2147483648 := by omega) : a = b := (nI_eq ha hb).mp c
theorem zne {a b : Nat} (c : ¬ nI a = nI b) (ha : a < 2147483648 := by omega) (hb : b < 2147483648 := by omega) : a ≠ b := fun h => c ((nI_eq ha hb).mpr h)
/-- a register, an element: below n -/
def iR (r : Int32) (n : Nat) : Prop := ∃ k, k < n ∧ r = nI k
theorem iR_of {r : Int32} {n : Nat} (h0 : ¬ r < 0) (h1 : ¬ nI n ≤ r) (hn : n < 2147483648) : iR r n := by
  rcases pk_ix r hn with h | h | ⟨j, h, h2⟩
  · exact absurd h h0
  · exact absurd h h1
  · exact ⟨j, h, h2⟩
theorem iR_neg {r : Int32} {n : Nat} (h0 : r < 0) (hn : n < 2147483648) : ¬ iR r n := by
  rintro ⟨k, hk, rfl⟩
  exact nI_pos (by omega) h0
theorem iR_big {r : Int32} {n : Nat} (h0 : nI n ≤ r) (hn : n < 2147483648) : ¬ iR r n := by
  rintro ⟨k, hk, rfl⟩
  have := zle h0
  omega
noncomputable def bI (p : Prop) : Int32 := by classical exact if p then 1 else 0
theorem bI_t {p : Prop} (h : p) : bI p = 1 := by unfold bI; exact if_pos h
theorem bI_f {p : Prop} (h : ¬ p) : bI p = 0 := by unfold bI; exact if_neg h
theorem bI_0 {p : Prop} : bI p = 0 ↔ ¬ p := by
  by_cases h : p
  · rw [bI_t h]; exact ⟨fun z => absurd z (by decide), fun z => absurd h z⟩
  · rw [bI_f h]; exact ⟨fun _ => h, fun _ => rfl⟩
theorem bI_01 (p : Prop) : bI p = 0 ∨ bI p = 1 := by
  by_cases h : p
  · exact Or.inr (bI_t h)
  · exact Or.inl (bI_f h)
theorem bI_iff {p q : Prop} (h : p ↔ q) : bI p = bI q := by rw [propext h]
/-- contracts of methods that change nothing -/
abbrev zpI (d : Nat) (M : zw_M) (as : List Value) (h : zw_H) (F : Int32) : Prop := zcI d M as h (fun x h' => x = F ∧ h' = h)
abbrev zpL (d : Nat) (M : zw_M) (as : List Value) (h : zw_H) (F : Int64) : Prop := zcL d M as h (fun x h' => x = F ∧ h' = h)
theorem ca {d : Nat} {M : zw_M} {as : List Value} {h : zw_H} {F : Int32} {P : Int32 → zw_H → Prop} (ct : zpI d M as h F) (k : P F h) : ∃ q : Int32 → zw_H → Prop, zcI d M as h q ∧ ∀ (x : Int32) (h1 : zw_H), q x h1 → P x h1 := ⟨_, ct, fun _ _ e => by rw [e.1, e.2]; exact k⟩
theorem caL {d : Nat} {M : zw_M} {as : List Value} {h : zw_H} {F : Int64} {P : Int64 → zw_H → Prop} (ct : zpL d M as h F) (k : P F h) : ∃ q : Int64 → zw_H → Prop, zcL d M as h q ∧ ∀ (x : Int64) (h1 : zw_H), q x h1 → P x h1 := ⟨_, ct, fun _ _ e => by rw [e.1, e.2]; exact k⟩
/-- a contract out of a walk from the entry: what differs method by method is decided -/
theorem zcI_of {d : Nat} {M : zw_M} {as : List Value} {h : zw_H} {q : Int32 → zw_H → Prop} (hX : M.2.2.2.2.1 = 0) (hp : plainName M.1.cls = true) (hl : ∀ g : zw_G, (lg_sl (as.map (zw_tr g))).length ≤ M.2.2.1) {lv : List (Nat × Value)} (hlv : lv_args 0 as = lv) (k : zwI d M q 0 lv [] h) : zcI d M as h q := by
  subst hlv
  exact zc_of hX hp hl k
theorem zcL_of {d : Nat} {M : zw_M} {as : List Value} {h : zw_H} {q : Int64 → zw_H → Prop} (hX : M.2.2.2.2.1 = 0) (hp : plainName M.1.cls = true) (hl : ∀ g : zw_G, (lg_sl (as.map (zw_tr g))).length ≤ M.2.2.1) {lv : List (Nat × Value)} (hlv : lv_args 0 as = lv) (k : zwL d M q 0 lv [] h) : zcL d M as h q := by
  subst hlv
  exact zc_of hX hp hl k
theorem zcV_of {d : Nat} {M : zw_M} {as : List Value} {h : zw_H} {q : zw_H → Prop} (hX : M.2.2.2.2.1 = 0) (hp : plainName M.1.cls = true) (hl : ∀ g : zw_G, (lg_sl (as.map (zw_tr g))).length ≤ M.2.2.1) {lv : List (Nat × Value)} (hlv : lv_args 0 as = lv) (k : zwV d M q 0 lv [] h) : zcV d M as h q := by
  subst hlv
  exact zc_of hX hp hl k
theorem zsm : ∀ n, n < 32 → ((nI n &&& 31).toBitVec.smod 32).toNat = n := by decide +kernel
theorem zshr {m k : Nat} (hm : m < 2147483648) (hk : k < 32) : nI m >>> (nI k &&& 31) = nI (m / 2 ^ k) := pk_shrN hm (nI k &&& 31) k (zsm k hk)
theorem zand (a b : Nat) : nI a &&& nI b = nI (a &&& b) := fa_and a b
theorem zor (a b : Nat) : nI a ||| nI b = nI (a ||| b) := fa_or a b
theorem zxor (a b : Nat) : nI a ^^^ nI b = nI (a ^^^ b) := fb_xorI a b
theorem zbit {m k : Nat} (hm : m < 2147483648) (hk : k < 32) : (nI m >>> (nI k &&& 31)) &&& 1 = nI (if m.testBit k then 1 else 0) := by
  rw [zshr hm hk, show (1 : Int32) = nI 1 from rfl, zand, Nat.and_one_is_mod]
  congr 1
  rw [Nat.testBit_eq_decide_div_mod_eq]
  by_cases h : m / 2 ^ k % 2 = 1
  · simp [h]
  · have : m / 2 ^ k % 2 = 0 := by omega
    simp [this]
theorem zbit0 {m k : Nat} (hm : m < 2147483648) (hk : k < 32) : (nI m >>> (nI k &&& 31)) &&& 1 = 0 ↔ m.testBit k = false := by
  rw [zbit hm hk]
  cases h : m.testBit k <;> simp <;> decide
theorem zshl {m k : Nat} (hk : k < 31) (h : m * 2 ^ k < 4294967296) : nI m <<< (nI k &&& 31) = nI (m * 2 ^ k) := pk_shlN (nI k &&& 31) k (zsm k (by omega)) h
theorem zone {k : Nat} (hk : k < 31) : (1 : Int32) <<< (nI k &&& 31) = nI (2 ^ k) := by
  have h : 1 * 2 ^ k < 4294967296 := by
    have := Nat.pow_lt_pow_right (a := 2) (by decide) hk
    omega
  have := zshl (m := 1) hk h
  rw [Nat.one_mul] at this
  exact this
/-- a is in b: a and not b is nothing -/
theorem zsub {a b : Nat} (ha : a < 2147483648) (hb : b < 2147483648) : (nI a &&& (nI b ^^^ (-1 : Int32))) = 0 ↔ a &&& b = a := by
  have e1 : (-1 : Int32) = nI 4294967295 := by decide
  rw [e1, zxor, zand, show (0 : Int32) = nI 0 from rfl]
  have hlt : a &&& (b ^^^ 4294967295) < 2147483648 := Nat.lt_of_le_of_lt Nat.and_le_left ha
  rw [nI_eq hlt (by decide)]
  constructor
  · intro h
    apply Nat.eq_of_testBit_eq
    intro i
    have h2 := congrArg (fun z => z.testBit i) h
    simp only [Nat.testBit_and, Nat.testBit_xor, Nat.zero_testBit] at h2 ⊢
    by_cases hi : i < 32
    · have h3 : (4294967295 : Nat).testBit i = true := by
        have : (4294967295 : Nat) = 2 ^ 32 - 1 := by decide
        rw [this, Nat.testBit_two_pow_sub_one]
        exact decide_eq_true hi
      rw [h3] at h2
      cases h4 : a.testBit i <;> cases h5 : b.testBit i <;> simp_all
    · have h3 : a.testBit i = false := Nat.testBit_lt_two_pow (Nat.lt_of_lt_of_le ha (by
        have := Nat.pow_le_pow_right (n := 2) (by decide) (show 31 ≤ i by omega)
        omega))
      rw [h3]; rfl
  · intro h
    apply Nat.eq_of_testBit_eq
    intro i
    have h2 := congrArg (fun z => z.testBit i) h
    simp only [Nat.testBit_and, Nat.testBit_xor, Nat.zero_testBit] at h2 ⊢
    by_cases hi : i < 32
    · have h3 : (4294967295 : Nat).testBit i = true := by
        have : (4294967295 : Nat) = 2 ^ 32 - 1 := by decide
        rw [this, Nat.testBit_two_pow_sub_one]
        exact decide_eq_true hi
      rw [h3]
      cases h4 : a.testBit i <;> cases h5 : b.testBit i <;> simp_all
    · have h3 : a.testBit i = false := Nat.testBit_lt_two_pow (Nat.lt_of_lt_of_le ha (by
        have := Nat.pow_le_pow_right (n := 2) (by decide) (show 31 ≤ i by omega)
        omega))
      rw [h3]; rfl
/-- the mask without b -/
theorem zdel {a b : Nat} (ha : a < 2147483648) : (nI a &&& (nI b ^^^ (-1 : Int32))) = nI (a &&& (b ^^^ 4294967295)) := by
  have e1 : (-1 : Int32) = nI 4294967295 := by decide
  rw [e1, zxor, zand]
