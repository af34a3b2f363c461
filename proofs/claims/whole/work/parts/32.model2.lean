/-- what P doesn't name stays -/
def Fr (P : Nat → Nat → Prop) (h h' : zw_H) : Prop := (∀ a b, ¬ P a b → h'.1 a b = h.1 a b) ∧ ∀ a b, ¬ P a b → h'.2 a b = h.2 a b
theorem Fr.rf {P : Nat → Nat → Prop} {h : zw_H} : Fr P h h := ⟨fun _ _ _ => rfl, fun _ _ _ => rfl⟩
theorem Fr.tr {P : Nat → Nat → Prop} {h h1 h2 : zw_H} (f : Fr P h h1) (g : Fr P h1 h2) : Fr P h h2 := ⟨fun a b n => (g.1 a b n).trans (f.1 a b n), fun a b n => (g.2 a b n).trans (f.2 a b n)⟩
theorem Fr.mo {P Q : Nat → Nat → Prop} {h h1 : zw_H} (f : Fr P h h1) (k : ∀ a b, P a b → Q a b) : Fr Q h h1 := ⟨fun a b n => f.1 a b (fun z => n (k a b z)), fun a b n => f.2 a b (fun z => n (k a b z))⟩
theorem Fr.sI {P : Nat → Nat → Prop} {h h1 h2 : zw_H} (f : Fr P h h1) {k j : Nat} {x : Int32} (e : h2 = zw_sI h1 k j x) (hp : P k j) : Fr P h h2 := by
  subst e
  refine f.tr ⟨fun a b n => ?_, fun a b n => rfl⟩
  by_cases ha : a = k
  · by_cases hb : b = j
    · exact absurd (by rw [ha, hb]; exact hp) n
    · exact zw_sI_n (Or.inr hb)
  · exact zw_sI_n (Or.inl ha)
theorem Fr.sL {P : Nat → Nat → Prop} {h h1 h2 : zw_H} (f : Fr P h h1) {k j : Nat} {x : Int64} (e : h2 = zw_sL h1 k j x) (hp : P k j) : Fr P h h2 := by
  subst e
  refine f.tr ⟨fun a b n => rfl, fun a b n => ?_⟩
  by_cases ha : a = k
  · by_cases hb : b = j
    · exact absurd (by rw [ha, hb]; exact hp) n
    · exact zw_sL_n (Or.inr hb)
  · exact zw_sL_n (Or.inl ha)
/-- relational calls -/
theorem caV {d : Nat} {M : zw_M} {as : List Value} {h : zw_H} {R P : zw_H → Prop} (ct : zcV d M as h R) (k : ∀ h1, R h1 → P h1) : ∃ q : zw_H → Prop, zcV d M as h q ∧ ∀ h1 : zw_H, q h1 → P h1 := ⟨_, ct, k⟩
theorem cr {d : Nat} {M : zw_M} {as : List Value} {h : zw_H} {R P : Int32 → zw_H → Prop} (ct : zcI d M as h R) (k : ∀ x h1, R x h1 → P x h1) : ∃ q : Int32 → zw_H → Prop, zcI d M as h q ∧ ∀ (x : Int32) (h1 : zw_H), q x h1 → P x h1 := ⟨_, ct, k⟩
theorem crL {d : Nat} {M : zw_M} {as : List Value} {h : zw_H} {R P : Int64 → zw_H → Prop} (ct : zcL d M as h R) (k : ∀ x h1, R x h1 → P x h1) : ∃ q : Int64 → zw_H → Prop, zcL d M as h q ∧ ∀ (x : Int64) (h1 : zw_H), q x h1 → P x h1 := ⟨_, ct, k⟩
/-- a is below b -/
def le (n a b : Nat) : Prop := km n a &&& km n b = km n a
theorem kp_onto : ∀ p, p < 15 → ∃ i, i < 6 ∧ ∃ j, j < 6 ∧ i < j ∧ kp i j = p := by decide +kernel
theorem le_iff {n a b : Nat} (h1 : 1 ≤ n) (h2 : n ≤ 6) (ha : a < kN n) (hb : b < kN n) : le n a b ↔ ∀ i j, i < j → j < n → ks n a i = ks n a j → ks n b i = ks n b j := by
  constructor
  · intro h i j hi hj e
    have h3 := congrArg (fun z => z.testBit (kp i j)) h
    simp only [Nat.testBit_and] at h3
    rw [km_bit h1 h2 ha hi (by omega), km_bit h1 h2 hb hi (by omega)] at h3
    simpa [hj, e] using h3
  · intro h
    apply Nat.eq_of_testBit_eq
    intro p
    rw [Nat.testBit_and]
    by_cases hp : p < 15
    · obtain ⟨i, hi6, j, hj6, hij, rfl⟩ := kp_onto p hp
      rw [km_bit h1 h2 ha hij hj6, km_bit h1 h2 hb hij hj6]
      by_cases hj : j < n
      · by_cases e : ks n a i = ks n a j
        · simp [hj, e, h i j hij hj e]
        · simp [e]
      · simp [hj]
    · have : (km n a).testBit p = false := Nat.testBit_lt_two_pow (Nat.lt_of_lt_of_le (km_lt h1 h2 ha) (by
        have := Nat.pow_le_pow_right (n := 2) (by decide) (show 15 ≤ p by omega)
        omega))
      rw [this]
      rfl
/-- a partition is known by its pairs -/
theorem km_inj {n a b : Nat} (h1 : 1 ≤ n) (h2 : n ≤ 6) (ha : a < kN n) (hb : b < kN n) (e : km n a = km n b) : a = b := by
  rcases Nat.lt_trichotomy a b with h | h | h
  · exact absurd (by rw [e, Nat.and_self]) (km_ord h1 h2 hb h)
  · exact h
  · exact absurd (by rw [e, Nat.and_self]) (km_ord h1 h2 ha h)
theorem le_antisymm {n a b : Nat} (h1 : 1 ≤ n) (h2 : n ≤ 6) (ha : a < kN n) (hb : b < kN n) (x : le n a b) (y : le n b a) : a = b := km_inj h1 h2 ha hb (by
  unfold le at x y
  rw [← x, Nat.and_comm, y])
theorem le_refl (n a : Nat) : le n a a := Nat.and_self _
theorem le_trans {n a b c : Nat} (x : le n a b) (y : le n b c) : le n a c := by
  unfold le at *
  rw [← x, Nat.and_assoc, y]
/-- what is strictly below is behind -/
theorem le_ord {n a b : Nat} (h1 : 1 ≤ n) (h2 : n ≤ 6) (ha : a < kN n) (hb : b < kN n) (x : le n a b) (hne : a ≠ b) : b < a := by
  rcases Nat.lt_trichotomy a b with h | h | h
  · exact absurd x (km_ord h1 h2 hb h)
  · exact absurd h hne
  · exact h
/-- the same pairs: the same partition -/
theorem ks_inj {n a b : Nat} (h1 : 1 ≤ n) (h2 : n ≤ 6) (ha : a < kN n) (hb : b < kN n) (e : ∀ i j, i < j → j < n → (ks n a i = ks n a j ↔ ks n b i = ks n b j)) : a = b :=
  le_antisymm h1 h2 ha hb ((le_iff h1 h2 ha hb).mpr (fun i j hi hj => (e i j hi hj).mp)) ((le_iff h1 h2 hb ha).mpr (fun i j hi hj => (e i j hi hj).mpr))
theorem RT.fr {P : Nat → Nat → Prop} {h h' : zw_H} {n : Nat} (T : RT h n) (f : Fr P h h') (p1 : ¬ P 57 0) (p2 : ¬ P 56 7) (p3 : ∀ b, ¬ P 60 b) (p4 : ∀ b, ¬ P 59 b) : RT h' n := by
  obtain ⟨h1, h2, h3, h4, h5, h6⟩ := T
  exact ⟨h1, h2, by rw [f.1 _ _ p1]; exact h3, by rw [f.1 _ _ p2]; exact h4, fun g hg => by rw [f.1 _ _ (p3 g)]; exact h5 g hg, fun g e hg he => by rw [f.1 _ _ (p4 _)]; exact h6 g e hg he⟩
theorem c_X8_isBelow {h : zw_H} {n a b : Nat} (T : RT h n) (ha : a < kN n) (hb : b < kN n) : zpI 1 mX8_isBelow [.ref 56, .int (nI a), .int (nI b)] h (bI (le n a b)) := by
  obtain ⟨h1, h2, h3, h4, h5, h6⟩ := id T
  refine zcI_of rfl pn_X8 (fun _ => Nat.le_of_ble_eq_true rfl) rfl (rX8_isBelow_0 ?_)
  generalize hr : bI (le n a b) = r
  refine lp_up (P := fun i => (∀ i' j', i' < j' → j' < i → ks n a i' = ks n a j' → ks n b i' = ks n b j') → zwI 1 mX8_isBelow (fun x h' => x = r ∧ h' = h) 2 [(0, .ref 56), (1, .int (nI a)), (2, .int (nI b)), (3, .int (nI i))] [] h) (N := n) ?_ ?_ 0 (by omega) (fun i' j' h1 h2 => absurd h2 (by omega))
  · intro inv
    refine rX8_isBelow_2 ⟨fun _ => ⟨?_, rfl⟩, fun c => absurd (by rw [h3]; exact nI_le (Nat.le_refl _) (by omega)) c⟩
    rw [← hr]
    exact (bI_t ((le_iff h1 h2 ha hb).mpr inv)).symm
  · intro i hi ih inv
    refine rX8_isBelow_2 ⟨fun c => ?_, fun _ => ?_⟩
    · rw [h3] at c
      have := zle c
      omega
    · refine lp_up (P := fun j => (∀ j', j' < j → ks n a i = ks n a j' → ks n b i = ks n b j') → zwI 1 mX8_isBelow (fun x h' => x = r ∧ h' = h) 15 [(0, .ref 56), (1, .int (nI a)), (2, .int (nI b)), (3, .int (nI i)), (4, .int (nI j))] [] h) (N := i) ?_ ?_ 0 (by omega) (fun j' h1 => absurd h1 (by omega))
      · intro inv2
        refine rX8_isBelow_15 ⟨fun _ => ?_, fun c => absurd (nI_le (Nat.le_refl _) (by omega)) c⟩
        rw [nI_1]
        refine ih (fun i' j' h7 h8 h9 => ?_)
        by_cases hj : j' = i
        · subst hj
          exact (inv2 i' h7 h9.symm).symm
        · exact inv i' j' h7 (by omega) h9
      · intro j hj ih2 inv2
        have k1 := ks_lt h1 h2 ha hi
        have k2 := ks_lt h1 h2 ha (show j < n by omega)
        have k3 := ks_lt h1 h2 hb hi
        have k4 := ks_lt h1 h2 hb (show j < n by omega)
        refine rX8_isBelow_15 ⟨fun c => ?_, fun _ => ca (c_X8_at T ha hi) (ca (c_X8_at T ha (by omega)) ⟨fun c => ?_, fun c => ca (c_X8_at T hb hi) (ca (c_X8_at T hb (by omega)) ⟨fun c2 => ?_, fun c2 => ⟨?_, rfl⟩⟩)⟩)⟩
        · have := zle c
          omega
        · rw [nI_1]
          refine ih2 (fun j' h7 h8 => ?_)
          by_cases hj2 : j' = j
          · subst hj2
            exact absurd h8 (zne c)
          · exact inv2 j' (by omega) h8
        · rw [nI_1]
          refine ih2 (fun j' h7 h8 => ?_)
          by_cases hj2 : j' = j
          · subst hj2
            exact zeq c2
          · exact inv2 j' (by omega) h8
        · rw [← hr]
          refine (bI_f (fun z => ?_)).symm
          exact absurd ((le_iff h1 h2 ha hb).mp z j i hj hi (zeq c).symm).symm (zne c2)
theorem c_X8_isStrictly {h : zw_H} {n a b : Nat} (T : RT h n) (ha : a < kN n) (hb : b < kN n) : zpI 2 mX8_isStrictly [.ref 56, .int (nI a), .int (nI b)] h (bI (le n a b ∧ a ≠ b)) := by
  obtain ⟨h1, h2, h3, h4, h5, h6⟩ := id T
  have hN := (kN_le h1 h2).1
  refine zcI_of rfl pn_X8 (fun _ => Nat.le_of_ble_eq_true rfl) rfl (rX8_isStrictly_0 ⟨fun c => ⟨?_, rfl⟩, fun c => ca (c_X8_isBelow T ha hb) ⟨fun c2 => ⟨?_, rfl⟩, fun c2 => ⟨?_, rfl⟩⟩⟩)
  · exact (bI_f (fun z => z.2 (zeq c))).symm
  · exact (bI_f (fun z => bI_0.mp c2 z.1)).symm
  · refine (bI_t ⟨?_, zne c⟩).symm
    by_cases hx : le n a b
    · exact hx
    · exact absurd (bI_f hx) c2
/-- which partitions are admitted, as the reference keeps it -/
def RA (h : zw_H) (s : zS) : Prop := (∀ g, g < kN s.1 → h.1 61 g = if adm s g = true then nI (ix s g) else -9) ∧ h.1 56 8 = nI (cnt s)
theorem ix_le (s : zS) (g : Nat) : ix s g ≤ g := fb_ct_le _ g
theorem c_X8_isAdmitted {h : zw_H} {s : zS} {g : Nat} (T : RT h s.1) (A : RA h s) (hg : g < kN s.1) : zpI 0 mX8_isAdmitted [.ref 56, .int (nI g)] h (bI (adm s g = true)) := by
  obtain ⟨h1, h2, h3, h4, h5, h6⟩ := id T
  have hN := (kN_le h1 h2).1
  have hi := ix_le s g
  refine zcI_of rfl pn_X8 (fun _ => Nat.le_of_ble_eq_true rfl) rfl (rX8_isAdmitted_0 ⟨g, rfl, by omega, fun c => ⟨?_, rfl⟩, fun c => ⟨?_, rfl⟩⟩)
  · rw [A.1 g hg] at c
    refine (bI_f (fun z => ?_)).symm
    rw [if_pos z] at c
    exact nI_pos (by omega) c
  · rw [A.1 g hg] at c
    refine (bI_t ?_).symm
    by_cases hx : adm s g = true
    · exact hx
    · rw [if_neg hx] at c
      exact absurd (by decide) c
theorem c_X8_held {h : zw_H} {s : zS} {r : Nat} (Pg : RP h s) (hr : r < 8) : zpI 0 mX8_held [.ref 56, .int (nI r)] h (enc1 (s.2.2.2.2.2.2 r)) := by
  refine zcI_of rfl pn_X8 (fun _ => Nat.le_of_ble_eq_true rfl) rfl (rX8_held_0 ⟨6 + r, ?_, by omega, Pg.2.2.2.2.2.2 r hr, rfl⟩)
  rw [show (6 : Int32) = nI 6 from rfl, nI_add]
theorem c_X8_takes {h : zw_H} {n g : Nat} (T : RT h n) (hg : g < kN n) : zcV 1 mX8_takes [.ref 56, .int (nI g)] h (fun h' => (∀ e, e < n → h'.1 62 e = nI (ks n g e)) ∧ Fr (fun a _ => a = 62) h h') := by
  obtain ⟨h1, h2, h3, h4, h5, h6⟩ := id T
  refine zcV_of rfl pn_X8 (fun _ => Nat.le_of_ble_eq_true rfl) rfl (rX8_takes_0 ?_)
  refine lp_up (P := fun e => ∀ h1, (∀ e', e' < e → h1.1 62 e' = nI (ks n g e')) → Fr (fun a _ => a = 62) h h1 → zwV 1 mX8_takes (fun h' => (∀ e, e < n → h'.1 62 e = nI (ks n g e)) ∧ Fr (fun a _ => a = 62) h h') 2 [(0, .ref 56), (1, .int (nI g)), (2, .int (nI e))] [] h1) (N := n) ?_ ?_ 0 (by omega) h (fun e' he => absurd he (by omega)) Fr.rf
  · intro k inv fr
    exact rX8_takes_2 ⟨fun _ => ⟨inv, fr⟩, fun c => absurd (by rw [fr.1 57 0 (by decide), h3]; exact nI_le (Nat.le_refl _) (by omega)) c⟩
  · intro e he ih k inv fr
    have T1 : RT k n := T.fr fr (by decide) (by decide) (fun _ => by decide) (fun _ => by decide)
    refine rX8_takes_2 ⟨fun c => ?_, fun _ => ca (c_X8_at T1 hg he) ⟨e, rfl, by omega, fun k2 e2 => ?_⟩⟩
    · rw [fr.1 57 0 (by decide), h3] at c
      have := zle c
      omega
    · rw [nI_1]
      refine ih k2 (fun e' he' => ?_) (fr.sI e2 rfl)
      subst e2
      by_cases hx : e' = e
      · subst hx
        exact zw_sI_s _ _ _ _
      · rw [zw_sI_n (Or.inr hx)]
        exact inv e' (by omega)
theorem c_X8_merges {h : zw_H} {n : Nat} {x y : Int32} (T : RT h n) : zcV 0 mX8_merges [.ref 56, .int x, .int y] h (fun h' => (∀ e, e < n → h'.1 62 e = if h.1 62 e = y then x else h.1 62 e) ∧ Fr (fun a _ => a = 62) h h') := by
  obtain ⟨h1, h2, h3, h4, h5, h6⟩ := id T
  refine zcV_of rfl pn_X8 (fun _ => Nat.le_of_ble_eq_true rfl) rfl (rX8_merges_0 ?_)
  refine lp_up (P := fun e => ∀ h1, (∀ e', e' < e → h1.1 62 e' = if h.1 62 e' = y then x else h.1 62 e') → (∀ e', e ≤ e' → h1.1 62 e' = h.1 62 e') → Fr (fun a _ => a = 62) h h1 → zwV 0 mX8_merges (fun h' => (∀ e, e < n → h'.1 62 e = if h.1 62 e = y then x else h.1 62 e) ∧ Fr (fun a _ => a = 62) h h') 2 [(0, .ref 56), (1, .int x), (2, .int y), (3, .int (nI e))] [] h1) (N := n) ?_ ?_ 0 (by omega) h (fun e' he => absurd he (by omega)) (fun _ _ => rfl) Fr.rf
  · intro k inv inv2 fr
    exact rX8_merges_2 ⟨fun _ => ⟨inv, fr⟩, fun c => absurd (by rw [fr.1 57 0 (by decide), h3]; exact nI_le (Nat.le_refl _) (by omega)) c⟩
  · intro e he ih k inv inv2 fr
    have fin : ∀ (v : Int32) (k2 : zw_H), v = (if h.1 62 e = y then x else h.1 62 e) → k2 = zw_sI k 62 e v → zwV 0 mX8_merges (fun h' => (∀ e, e < n → h'.1 62 e = if h.1 62 e = y then x else h.1 62 e) ∧ Fr (fun a _ => a = 62) h h') 2 [(0, .ref 56), (1, .int x), (2, .int y), (3, .int (nI e + 1))] [] k2 := by
      intro v k2 hv e2
      rw [nI_1]
      refine ih k2 (fun e' he' => ?_) (fun e' he' => ?_) (fr.sI e2 rfl)
      · subst e2
        by_cases hx : e' = e
        · subst hx
          rw [zw_sI_s]
          exact hv
        · rw [zw_sI_n (Or.inr hx)]
          exact inv e' (by omega)
      · subst e2
        rw [zw_sI_n (Or.inr (by omega))]
        exact inv2 e' (by omega)
    refine rX8_merges_2 ⟨fun c => ?_, fun _ => ⟨e, rfl, by omega, fun c => ⟨e, rfl, by omega, e, rfl, by omega, fun k2 e2 => ?_⟩, fun c => ⟨e, rfl, by omega, fun k2 e2 => ?_⟩⟩⟩
    · rw [fr.1 57 0 (by decide), h3] at c
      have := zle c
      omega
    · rw [inv2 e (Nat.le_refl e)] at c
      exact fin _ k2 (by rw [if_neg c]; exact inv2 e (Nat.le_refl e)) e2
    · rw [inv2 e (Nat.le_refl e)] at c
      exact fin _ k2 (by rw [if_pos c]) e2
