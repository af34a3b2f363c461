theorem num_step {h : zw_H} {n g : Nat} {q : Int32 → zw_H → Prop} (T : RT h n) (hg : g < kN n) (ok : (∀ i j, j < i → i < n → (h.1 62 i = h.1 62 j ↔ ks n g i = ks n g j)) → q (nI g) h) (nx : ¬ (∀ i j, j < i → i < n → (h.1 62 i = h.1 62 j ↔ ks n g i = ks n g j)) → zwI 1 mX8_numberOf q 9 [(0, .ref 56), (1, .int (nI n)), (2, .int (nI (g + 1)))] [] h) : zwI 1 mX8_numberOf q 9 [(0, .ref 56), (1, .int (nI n)), (2, .int (nI g))] [] h := by
  obtain ⟨h1, h2, h3, h4, h5, h6⟩ := id T
  have hN := (kN_le h1 h2).1
  refine rX8_numberOf_9 ⟨fun c => ?_, fun _ => ?_⟩
  · rw [h4] at c
    have := zle c
    omega
  have fail : ∀ i, i ≤ n → ¬ (∀ i j, j < i → i < n → (h.1 62 i = h.1 62 j ↔ ks n g i = ks n g j)) → zwI 1 mX8_numberOf q 22 [(0, .ref 56), (1, .int (nI n)), (2, .int (nI g)), (3, .int 0), (4, .int (nI i))] [] h := by
    intro i hi no
    have nx := nx no
    rw [← nI_1] at nx
    exact rX8_numberOf_22 ⟨fun _ => ⟨fun _ => nx, fun c => absurd rfl c⟩, fun _ => ⟨fun _ => ⟨fun _ => nx, fun c => absurd rfl c⟩, fun c => absurd rfl c⟩⟩
  refine lp_up (P := fun i => (∀ i' j', j' < i' → i' < i → (h.1 62 i' = h.1 62 j' ↔ ks n g i' = ks n g j')) → zwI 1 mX8_numberOf q 22 [(0, .ref 56), (1, .int (nI n)), (2, .int (nI g)), (3, .int 1), (4, .int (nI i))] [] h) (N := n) ?_ ?_ 0 (by omega) (fun _ _ _ h1 => absurd h1 (by omega))
  · intro inv
    exact rX8_numberOf_22 ⟨fun _ => ⟨fun c => absurd c (by decide), fun _ => ok inv⟩, fun c => absurd (nI_le (Nat.le_refl n) (by omega)) c⟩
  · intro i hi ih inv
    refine rX8_numberOf_22 ⟨fun c => ?_, fun _ => ⟨fun c => absurd c (by decide), fun _ => ?_⟩⟩
    · have := zle c
      omega
    refine lp_up (P := fun j => (∀ j', j' < j → (h.1 62 i = h.1 62 j' ↔ ks n g i = ks n g j')) → zwI 1 mX8_numberOf q 35 [(0, .ref 56), (1, .int (nI n)), (2, .int (nI g)), (3, .int 1), (4, .int (nI i)), (5, .int (nI j))] [] h) (N := i) ?_ ?_ 0 (by omega) (fun _ h1 => absurd h1 (by omega))
    · intro inv2
      refine rX8_numberOf_35 ⟨fun _ => ?_, fun c => absurd (nI_le (Nat.le_refl i) (by omega)) c⟩
      rw [nI_1]
      refine ih (fun i' j' h7 h8 => ?_)
      by_cases hx : i' = i
      · subst hx
        exact inv2 j' h7
      · exact inv i' j' h7 (by omega)
    · intro j hj ih2 inv2
      have k1 := ks_lt h1 h2 hg hi
      have k2 := ks_lt h1 h2 hg (show j < n by omega)
      have good : (h.1 62 i = h.1 62 j ↔ ks n g i = ks n g j) → zwI 1 mX8_numberOf q 35 [(0, .ref 56), (1, .int (nI n)), (2, .int (nI g)), (3, .int 1), (4, .int (nI i)), (5, .int (nI j + 1))] [] h := by
        intro e
        rw [nI_1]
        refine ih2 (fun j' h7 => ?_)
        by_cases hx : j' = j
        · subst hx
          exact e
        · exact inv2 j' (by omega)
      have bad : ¬ (h.1 62 i = h.1 62 j ↔ ks n g i = ks n g j) → zwI 1 mX8_numberOf q 35 [(0, .ref 56), (1, .int (nI n)), (2, .int (nI g)), (3, .int 0), (4, .int (nI i)), (5, .int (nI j + 1))] [] h := by
        intro e
        have f := fail (i + 1) (by omega) (fun z => e (z i j hj hi))
        rw [← nI_1] at f
        exact rX8_numberOf_35 ⟨fun _ => f, fun _ => ⟨fun _ => f, fun c => absurd rfl c⟩⟩
      refine rX8_numberOf_35 ⟨fun c => ?_, fun _ => ⟨fun c => absurd c (by decide), fun _ => ⟨i, rfl, by omega, j, rfl, by omega, fun c => ca (c_X8_at T hg hi) (ca (c_X8_at T hg (by omega)) ⟨fun c2 => ⟨fun c3 => absurd rfl c3, fun _ => ?_⟩, fun c2 => ⟨fun _ => ?_, fun c3 => absurd c3 (by decide)⟩⟩), fun c => ca (c_X8_at T hg hi) (ca (c_X8_at T hg (by omega)) ⟨fun c2 => ⟨fun _ => ?_, fun c3 => absurd c3 (by decide)⟩, fun c2 => ⟨fun c3 => absurd rfl c3, fun _ => ?_⟩⟩)⟩⟩⟩
      · have := zle c
        omega
      · exact good ⟨fun z => absurd z c, fun z => absurd z (zne c2)⟩
      · exact bad (fun z => c (z.mpr (zeq c2)))
      · exact bad (fun z => absurd (z.mp c) (zne c2))
      · exact good ⟨fun _ => zeq c2, fun _ => c⟩
theorem c_X8_numberOf {h : zw_H} {n g : Nat} (T : RT h n) (hg : g < kN n) (hw : ∀ i j, j < i → i < n → (h.1 62 i = h.1 62 j ↔ ks n g i = ks n g j)) : zpI 1 mX8_numberOf [.ref 56] h (nI g) := by
  obtain ⟨h1, h2, h3, h4, h5, h6⟩ := id T
  refine zcI_of rfl pn_X8 (fun _ => Nat.le_of_ble_eq_true rfl) rfl (rX8_numberOf_0 ?_)
  rw [h3]
  refine lp_up (P := fun k => zwI 1 mX8_numberOf (fun x h' => x = nI g ∧ h' = h) 9 [(0, .ref 56), (1, .int (nI n)), (2, .int (nI k))] [] h) (N := g) ?_ ?_ 0 (by omega)
  · exact num_step T hg (fun _ => ⟨rfl, rfl⟩) (fun no => absurd hw no)
  · intro k hk ih
    refine num_step T (by omega) (fun z => ?_) (fun _ => ih)
    have := ks_inj h1 h2 (show k < kN n by omega) hg (fun i j hi hj => by
      have e1 := z j i hi hj
      have e2 := hw j i hi hj
      exact ⟨fun y => (e2.mp (e1.mpr y.symm)).symm, fun y => (e1.mp (e2.mpr y.symm)).symm⟩)
    omega
/-- the greatest of the first, and 1 -/
def gm (d : Nat → Nat) : Nat → Nat
  | 0 => 0
  | k + 1 => if d k + 1 ≤ gm d k then gm d k else d k + 1
theorem gm_le {d : Nat → Nat} {c : Nat} (hd : ∀ k, d k ≤ c) : ∀ k, gm d k ≤ c + 1
  | 0 => Nat.zero_le _
  | k + 1 => by
    have := gm_le hd k
    have := hd k
    rw [gm]
    split <;> omega
theorem gm_cmp {d m : Nat} (hd : d < 1000) (hm : m < 1000) : nI d ≤ nI m - 1 ↔ d + 1 ≤ m := by
  cases m with
  | zero =>
    refine ⟨fun c => ?_, fun c => absurd c (by omega)⟩
    have e : nI 0 - 1 = -1 := by decide
    rw [e, Int32.le_iff_toInt_le, nI_toInt (by omega)] at c
    have e2 : (-1 : Int32).toInt = -1 := by decide
    omega
  | succ m =>
    rw [nI_pred, nI_leI (by omega) (by omega)]
    omega
theorem c_X8_greatest {h : zw_H} {k : Nat} {d : Nat → Nat} (hk : k ≤ 6) (hd : ∀ e, d e ≤ 100) (hw : ∀ e, e < k → h.1 62 e = nI (d e)) : zpI 0 mX8_greatest [.ref 56, .int (nI k)] h (nI (gm d k) - 1) := by
  refine zcI_of rfl pn_X8 (fun _ => Nat.le_of_ble_eq_true rfl) rfl (rX8_greatest_0 ?_)
  have e0 : (-1 : Int32) = nI 0 - 1 := by decide
  rw [e0]
  generalize hr : nI (gm d k) - 1 = r
  refine lp_up (P := fun e => zwI 0 mX8_greatest (fun x h' => x = r ∧ h' = h) 4 [(0, .ref 56), (1, .int (nI k)), (2, .int (nI (gm d e) - 1)), (3, .int (nI e))] [] h) (N := k) ?_ ?_ 0 (by omega)
  · exact rX8_greatest_4 ⟨fun _ => ⟨hr, rfl⟩, fun c => absurd (nI_le (Nat.le_refl k) (by omega)) c⟩
  · intro e he ih
    have hm := gm_le hd e
    have hde := hd e
    refine rX8_greatest_4 ⟨fun c => ?_, fun _ => ⟨e, rfl, by omega, fun c => ?_, fun c => ⟨e, rfl, by omega, ?_⟩⟩⟩
    · have := zle c
      omega
    · rw [hw e he, gm_cmp (by omega) (by omega)] at c
      rw [gm, if_pos c] at ih
      rw [nI_1]
      exact ih
    · rw [hw e he, gm_cmp (by omega) (by omega)] at c
      rw [gm, if_neg c, nI_pred] at ih
      rw [nI_1, hw e he]
      exact ih
/-- of a growth string the greatest and 1 is how many blocks there are -/
theorem gm_kb {n g : Nat} (h1 : 1 ≤ n) (h2 : n ≤ 6) (hg : g < kN n) : ∀ e, e ≤ n → gm (ks n g) e = kb n (kt n g) e
  | 0, _ => rfl
  | e + 1, he => by
    have ih := gm_kb h1 h2 hg e (by omega)
    have k := (ks_grow h1 h2 hg (show e < n by omega)).1
    rw [gm, ih, kb]
    by_cases hx : kd n (kt n g) e = kb n (kt n g) e
    · have : ks n g e = kb n (kt n g) e := hx
      rw [if_neg (by omega), if_pos hx]
      omega
    · have hx2 : ¬ ks n g e = kb n (kt n g) e := hx
      rw [if_pos (by omega), if_neg hx]
theorem kNxs_at {n : Nat} : ∀ (l : List Nat), kNxs n l = true → ∀ g, g + 1 < l.length → kNx n (l.getD g 0) (l.getD (g + 1) 0) = true
  | [], _, g, h => absurd h (by simp)
  | [t], _, g, h => absurd h (by simp)
  | t :: u :: l, h, 0, _ => by
    rw [kNxs, Bool.and_eq_true] at h
    exact h.1
  | t :: u :: l, h, g + 1, hg => by
    rw [kNxs, Bool.and_eq_true] at h
    exact kNxs_at (u :: l) h.2 g (by simpa using hg)
theorem kNxs_last {n : Nat} : ∀ (l : List Nat), kNxs n l = true → ∀ g, g + 1 = l.length → kQ n (l.getD g 0) (n - 1) = 0
  | [], _, g, h => absurd h (by simp)
  | [t], h, g, hg => by
    have : g = 0 := by simpa using hg
    subst this
    exact of_decide_eq_true h
  | t :: u :: l, h, 0, hg => absurd hg (by simp)
  | t :: u :: l, h, g + 1, hg => by
    rw [kNxs, Bool.and_eq_true] at h
    exact kNxs_last (u :: l) h.2 g (by simpa using hg)
theorem kt_step {n g : Nat} (h1 : 1 ≤ n) (h2 : n ≤ 6) (hg : g + 1 < kN n) : 0 < kQ n (kt n g) (n - 1) ∧ ∀ e, e < n → ks n (g + 1) e = if e < kQ n (kt n g) (n - 1) then ks n g e else if e = kQ n (kt n g) (n - 1) then ks n g e + 1 else 0 := by
  have h := List.all_eq_true.mp kT_next n (k6_mem h1 h2)
  rw [Bool.and_eq_true] at h
  have h3 := kNxs_at _ h.1 g hg
  unfold kNx at h3
  simp only [Bool.and_eq_true, decide_eq_true_eq, List.all_eq_true, List.mem_range] at h3
  exact ⟨h3.1, fun e he => h3.2 e he⟩
theorem kt_last {n g : Nat} (h1 : 1 ≤ n) (h2 : n ≤ 6) (hg : g + 1 = kN n) : kQ n (kt n g) (n - 1) = 0 := by
  have h := List.all_eq_true.mp kT_next n (k6_mem h1 h2)
  rw [Bool.and_eq_true] at h
  exact kNxs_last _ h.1 g hg
theorem kt_0 {n : Nat} (h1 : 1 ≤ n) (h2 : n ≤ 6) : kt n 0 = 0 := by
  have h := List.all_eq_true.mp kT_next n (k6_mem h1 h2)
  rw [Bool.and_eq_true, decide_eq_true_eq] at h
  unfold kt
  cases hl : kT n with
  | nil => rw [hl] at h; cases h.2
  | cons a l => rw [hl] at h; exact Option.some.inj h.2
theorem ks_0 {n e : Nat} (h1 : 1 ≤ n) (h2 : n ≤ 6) : ks n 0 e = 0 := by
  unfold ks kd
  rw [kt_0 h1 h2]
  simp
theorem kQ_le (n t : Nat) : ∀ e, kQ n t e ≤ e
  | 0 => Nat.le_refl 0
  | e + 1 => by
    have := kQ_le n t e
    rw [kQ]
    split <;> omega
/-- what lays() changes -/
def pL (a b : Nat) : Prop := a = 59 ∨ a = 60 ∨ a = 62 ∨ a = 56 ∧ b = 7
/-- the first g rows are laid, the row now is the next one -/
def LI (h0 h : zw_H) (n g : Nat) : Prop := Fr pL h0 h ∧ h.1 56 7 = nI g ∧ ∀ g', g' < g → h.1 60 g' = nI (kB n g') ∧ ∀ e, e < n → h.1 59 (6 * g' + e) = nI (ks n g' e)
theorem lay_row {h0 h : zw_H} {n g : Nat} {q : zw_H → Prop} (h1 : 1 ≤ n) (h2 : n ≤ 6) (hg : g < kN n) (I : LI h0 h n g) (hw : ∀ e, e < n → h.1 62 e = nI (ks n g e)) (k : ∀ h', LI h0 h' n (g + 1) → (∀ e, e < n → h'.1 62 e = nI (ks n g e)) → zwV 1 mX8_lays q 102 [(0, .ref 56), (1, .int (nI n)), (3, .int (nI (n - 1)))] [] h') : zwV 1 mX8_lays q 35 [(0, .ref 56), (1, .int (nI n)), (2, .int 1)] [] h := by
  have hN := (kN_le h1 h2).1
  refine rX8_lays_35 ⟨fun c => absurd c (by decide), fun _ => ?_⟩
  refine lp_up (P := fun e => ∀ h', LI h0 h' n g → (∀ e, e < n → h'.1 62 e = nI (ks n g e)) → (∀ e', e' < e → h'.1 59 (6 * g + e') = nI (ks n g e')) → zwV 1 mX8_lays q 41 [(0, .ref 56), (1, .int (nI n)), (3, .int (nI e))] [] h') (N := n) ?_ ?_ 0 (by omega) h I hw (fun _ h => absurd h (by omega))
  · intro h' I' hw' rows
    obtain ⟨fr, e7, old⟩ := I'
    refine rX8_lays_41 ⟨fun _ => ca (c_X8_greatest h2 (fun e => ?_) hw') ⟨g, e7, by omega, fun h3 e3 h4 e4 => ?_⟩, fun c => absurd (nI_le (Nat.le_refl n) (by omega)) c⟩
    · show ks n g e ≤ 100
      unfold ks kd
      omega
    · rw [gm_kb h1 h2 hg n (Nat.le_refl n)] at e3
      have hb := kB_le h1 h2 hg
      have e3' : h3 = zw_sI h' 60 g (nI (kB n g)) := by
        rw [e3]
        congr 1
        show nI (kB n g) - 1 + 1 = nI (kB n g)
        rw [show kB n g = (kB n g - 1) + 1 by omega, nI_pred, nI_1]
      have f3 : Fr pL h' h3 := Fr.rf.sI e3' (Or.inr (Or.inl rfl))
      have f4 : Fr pL h' h4 := f3.sI e4 (Or.inr (Or.inr (Or.inr ⟨rfl, rfl⟩)))
      have x7 : h3.1 56 7 = nI g := by rw [e3', zw_sI_n (Or.inl (by decide))]; exact e7
      have x4 : ∀ a b, a ≠ 56 → h4.1 a b = h3.1 a b := fun a b ha => by rw [e4, zw_sI_n (Or.inl ha)]
      rw [show nI n - 1 = nI (n - 1) by rw [show n = (n - 1) + 1 by omega, nI_pred]; rfl]
      refine k h4 ⟨fr.tr f4, by rw [e4, zw_sI_s, x7, nI_1], fun g' hg' => ?_⟩ (fun e he => ?_)
      · rw [x4 60 _ (by decide)]
        by_cases hx : g' = g
        · subst hx
          refine ⟨by rw [e3', zw_sI_s], fun e he => ?_⟩
          rw [x4 59 _ (by decide), e3', zw_sI_n (Or.inl (by decide))]
          exact rows e he
        · have := old g' (by omega)
          refine ⟨by rw [e3', zw_sI_n (Or.inr hx)]; exact this.1, fun e he => ?_⟩
          rw [x4 59 _ (by decide), e3', zw_sI_n (Or.inl (by decide))]
          exact this.2 e he
      · rw [x4 62 _ (by decide), e3', zw_sI_n (Or.inl (by decide))]
        exact hw' e he
  · intro e he ih h' I' hw' rows
    obtain ⟨fr, e7, old⟩ := I'
    refine rX8_lays_41 ⟨fun c => ?_, fun _ => ⟨e, rfl, by omega, 6 * g + e, ?_, by omega, fun h7 e7' => ?_⟩⟩
    · have := zle c
      omega
    · rw [e7, show (6 : Int32) = nI 6 from rfl, pk_mul, nI_add]
    · have x : ∀ a b, a ≠ 59 → h7.1 a b = h'.1 a b := fun a b ha => by rw [e7', zw_sI_n (Or.inl ha)]
      rw [nI_1]
      refine ih h7 ⟨fr.tr (Fr.rf.sI e7' (Or.inl rfl)), by rw [x 56 _ (by decide)]; exact e7, fun g' hg' => ?_⟩ (fun e he => by rw [x 62 _ (by decide)]; exact hw' e he) (fun e' he' => ?_)
      · have := old g' hg'
        refine ⟨by rw [x 60 _ (by decide)]; exact this.1, fun e'' he'' => ?_⟩
        rw [e7', zw_sI_n (Or.inr (by omega))]
        exact this.2 e'' he''
      · by_cases hx : e' = e
        · subst hx
          rw [e7', zw_sI_s]
          exact hw' e' he
        · rw [e7', zw_sI_n (Or.inr (by omega))]
          exact rows e' (by omega)
