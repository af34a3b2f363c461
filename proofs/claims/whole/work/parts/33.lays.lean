theorem num_step {h : zw_H} {n g : Nat} {q : Int32 → zw_H → Prop} (T : RT h n) (hg : g < kN n) (ok : (∀ i j, j < i → i < n → (h.1 62 i = h.1 62 j ↔ ks n g i = ks n g j)) → q (nI g) h) (nx : ¬ (∀ i j, j < i → i < n → (h.1 62 i = h.1 62 j ↔ ks n g i = ks n g j)) → zwI 1 mX8_numberOf q 9 [(0, .ref 56), (1, .int (nI n)), (2, .int (nI (g + 1)))] [] h) : zwI 1 mX8_numberOf q 9 [(0, .ref 56), (1, .int (nI n)), (2, .int (nI g))] [] h := by
  obtain ⟨h1, h2, h3, h4, h5, h6⟩ := id T
  have hN := (kN_le h1 h2).1
  refine rX8_numberOf_9 ⟨fun c => ?_, fun _ => ?_⟩
  · rw [h4] at c
    have := zle c
    omega
  have fail : ∀ i, i ≤ n → ¬ (∀ i j, j < i → i < n → (h.1 62 i = h.1 62 j ↔ ks n g i = ks n g j)) → zwI 1 mX8_numberOf q 22 [(0, .ref 56), (1, .int (nI n)), (2, .int (nI g)), (3, .int 0), (4, .int (nI i))] [] h := by
    intro i hi no
    have nx := nx no
    rw [← nI_1] at nx
    exact rX8_numberOf_22 ⟨fun _ => ⟨fun _ => nx, fun c => absurd rfl c⟩, fun _ => ⟨fun _ => ⟨fun _ => nx, fun c => absurd rfl c⟩, fun c => absurd rfl c⟩⟩
  refine lp_up (P := fun i => (∀ i' j', j' < i' → i' < i → (h.1 62 i' = h.1 62 j' ↔ ks n g i' = ks n g j')) → zwI 1 mX8_numberOf q 22 [(0, .ref 56), (1, .int (nI n)), (2, .int (nI g)), (3, .int 1), (4, .int (nI i))] [] h) (N := n) ?_ ?_ 0 (by omega) (fun _ _ _ h1 => absurd h1 (by omega))
  · intro inv
    exact rX8_numberOf_22 ⟨fun _ => ⟨fun c => absurd c (by decide), fun _ => ok inv⟩, fun c => absurd (nI_le (Nat.le_refl n) (by omega)) c⟩
  · intro i hi ih inv
    refine rX8_numberOf_22 ⟨fun c => ?_, fun _ => ⟨fun c => absurd c (by decide), fun _ => ?_⟩⟩
    · have := zle c
      omega
    refine lp_up (P := fun j => (∀ j', j' < j → (h.1 62 i = h.1 62 j' ↔ ks n g i = ks n g j')) → zwI 1 mX8_numberOf q 35 [(0, .ref 56), (1, .int (nI n)), (2, .int (nI g)), (3, .int 1), (4, .int (nI i)), (5, .int (nI j))] [] h) (N := i) ?_ ?_ 0 (by omega) (fun _ h1 => absurd h1 (by omega))
    · intro inv2
      refine rX8_numberOf_35 ⟨fun _ => ?_, fun c => absurd (nI_le (Nat.le_refl i) (by omega)) c⟩
      rw [nI_1]
      refine ih (fun i' j' h7 h8 => ?_)
      by_cases hx : i' = i
      · subst hx
        exact inv2 j' h7
      · exact inv i' j' h7 (by omega)
    · intro j hj ih2 inv2
      have k1 := ks_lt h1 h2 hg hi
      have k2 := ks_lt h1 h2 hg (show j < n by omega)
      have good : (h.1 62 i = h.1 62 j ↔ ks n g i = ks n g j) → zwI 1 mX8_numberOf q 35 [(0, .ref 56), (1, .int (nI n)), (2, .int (nI g)), (3, .int 1), (4, .int (nI i)), (5, .int (nI j + 1))] [] h := by
        intro e
        rw [nI_1]
        refine ih2 (fun j' h7 => ?_)
        by_cases hx : j' = j
        · subst hx
          exact e
        · exact inv2 j' (by omega)
      have bad : ¬ (h.1 62 i = h.1 62 j ↔ ks n g i = ks n g j) → zwI 1 mX8_numberOf q 35 [(0, .ref 56), (1, .int (nI n)), (2, .int (nI g)), (3, .int 0), (4, .int (nI i)), (5, .int (nI j + 1))] [] h := by
        intro e
        have f := fail (i + 1) (by omega) (fun z => e (z i j hj hi))
        rw [← nI_1] at f
        exact rX8_numberOf_35 ⟨fun _ => f, fun _ => ⟨fun _ => f, fun c => absurd rfl c⟩⟩
      refine rX8_numberOf_35 ⟨fun c => ?_, fun _ => ⟨fun c => absurd c (by decide), fun _ => ⟨i, rfl, by omega, j, rfl, by omega, fun c => ca (c_X8_at T hg hi) (ca (c_X8_at T hg (by omega)) ⟨fun c2 => ⟨fun c3 => absurd rfl c3, fun _ => ?_⟩, fun c2 => ⟨fun _ => ?_, fun c3 => absurd c3 (by decide)⟩⟩), fun c => ca (c_X8_at T hg hi) (ca (c_X8_at T hg (by omega)) ⟨fun c2 => ⟨fun _ => ?_, fun c3 => absurd c3 (by decide)⟩, fun c2 => ⟨fun c3 => absurd rfl c3, fun _ => ?_⟩⟩)⟩⟩⟩
      · have := zle c
        omega
      · exact good ⟨fun z => absurd z c, fun z => absurd z (zne c2)⟩
      · exact bad (fun z => c (z.mpr (zeq c2)))
      · exact bad (fun z => absurd (z.mp c) (zne c2))
      · exact good ⟨fun _ => zeq c2, fun _ => c⟩
theorem c_X8_numberOf {h : zw_H} {n g : Nat} (T : RT h n) (hg : g < kN n) (hw : ∀ i j, j < i → i < n → (h.1 62 i = h.1 62 j ↔ ks n g i = ks n g j)) : zpI 1 mX8_numberOf [.ref 56] h (nI g) := by
  obtain ⟨h1, h2, h3, h4, h5, h6⟩ := id T
  refine zcI_of rfl pn_X8 (fun _ => Nat.le_of_ble_eq_true rfl) rfl (rX8_numberOf_0 ?_)
  rw [h3]
  refine lp_up (P := fun k => zwI 1 mX8_numberOf (fun x h' => x = nI g ∧ h' = h) 9 [(0, .ref 56), (1, .int (nI n)), (2, .int (nI k))] [] h) (N := g) ?_ ?_ 0 (by omega)
  · exact num_step T hg (fun _ => ⟨rfl, rfl⟩) (fun no => absurd hw no)
  · intro k hk ih
    refine num_step T (by omega) (fun z => ?_) (fun _ => ih)
    have := ks_inj h1 h2 (show k < kN n by omega) hg (fun i j hi hj => by
      have e1 := z j i hi hj
      have e2 := hw j i hi hj
      exact ⟨fun y => (e2.mp (e1.mpr y.symm)).symm, fun y => (e1.mp (e2.mpr y.symm)).symm⟩)
    omega
/-- the greatest of the first, and 1 -/
def gm (d : Nat → Nat) : Nat → Nat
  | 0 => 0
  | k + 1 => if d k + 1 ≤ gm d k then gm d k else d k + 1
theorem gm_le {d : Nat → Nat} {c : Nat} (hd : ∀ k, d k ≤ c) : ∀ k, gm d k ≤ c + 1
  | 0 => Nat.zero_le _
  | k + 1 => by
    have := gm_le hd k
    have := hd k
    rw [gm]
    split <;> omega
theorem gm_cmp {d m : Nat} (hd : d < 1000) (hm : m < 1000) : nI d ≤ nI m - 1 ↔ d + 1 ≤ m := by
  cases m with
  | zero =>
    refine ⟨fun c => ?_, fun c => absurd c (by omega)⟩
    have e : nI 0 - 1 = -1 := by decide
    rw [e, Int32.le_iff_toInt_le, nI_toInt (by omega)] at c
    have e2 : (-1 : Int32).toInt = -1 := by decide
    omega
  | succ m =>
    rw [nI_pred, nI_leI (by omega) (by omega)]
    omega
theorem c_X8_greatest {h : zw_H} {k : Nat} {d : Nat → Nat} (hk : k ≤ 6) (hd : ∀ e, d e ≤ 100) (hw : ∀ e, e < k → h.1 62 e = nI (d e)) : zpI 0 mX8_greatest [.ref 56, .int (nI k)] h (nI (gm d k) - 1) := by
  refine zcI_of rfl pn_X8 (fun _ => Nat.le_of_ble_eq_true rfl) rfl (rX8_greatest_0 ?_)
  have e0 : (-1 : Int32) = nI 0 - 1 := by decide
  rw [e0]
  generalize hr : nI (gm d k) - 1 = r
  refine lp_up (P := fun e => zwI 0 mX8_greatest (fun x h' => x = r ∧ h' = h) 4 [(0, .ref 56), (1, .int (nI k)), (2, .int (nI (gm d e) - 1)), (3, .int (nI e))] [] h) (N := k) ?_ ?_ 0 (by omega)
  · exact rX8_greatest_4 ⟨fun _ => ⟨hr, rfl⟩, fun c => absurd (nI_le (Nat.le_refl k) (by omega)) c⟩
  · intro e he ih
    have hm := gm_le hd e
    have hde := hd e
    refine rX8_greatest_4 ⟨fun c => ?_, fun _ => ⟨e, rfl, by omega, fun c => ?_, fun c => ⟨e, rfl, by omega, ?_⟩⟩⟩
    · have := zle c
      omega
    · rw [hw e he, gm_cmp (by omega) (by omega)] at c
      rw [gm, if_pos c] at ih
      rw [nI_1]
      exact ih
    · rw [hw e he, gm_cmp (by omega) (by omega)] at c
      rw [gm, if_neg c, nI_pred] at ih
      rw [nI_1, hw e he]
      exact ih
/-- of a growth string the greatest and 1 is how many blocks there are -/
theorem gm_kb {n g : Nat} (h1 : 1 ≤ n) (h2 : n ≤ 6) (hg : g < kN n) : ∀ e, e ≤ n → gm (ks n g) e = kb n (kt n g) e
  | 0, _ => rfl
  | e + 1, he => by
    have ih := gm_kb h1 h2 hg e (by omega)
    have k := (ks_grow h1 h2 hg (show e < n by omega)).1
    rw [gm, ih, kb]
    by_cases hx : kd n (kt n g) e = kb n (kt n g) e
    · have : ks n g e = kb n (kt n g) e := hx
      rw [if_neg (by omega), if_pos hx]
      omega
    · have hx2 : ¬ ks n g e = kb n (kt n g) e := hx
      rw [if_pos (by omega), if_neg hx]
theorem kNxs_at {n : Nat} : ∀ (l : List Nat), kNxs n l = true → ∀ g, g + 1 < l.length → kNx n (l.getD g 0) (l.getD (g + 1) 0) = true
  | [], _, g, h => absurd h (by simp)
  | [t], _, g, h => absurd h (by simp)
  | t :: u :: l, h, 0, _ => by
    rw [kNxs, Bool.and_eq_true] at h
    exact h.1
  | t :: u :: l, h, g + 1, hg => by
    rw [kNxs, Bool.and_eq_true] at h
    exact kNxs_at (u :: l) h.2 g (by simpa using hg)
theorem kNxs_last {n : Nat} : ∀ (l : List Nat), kNxs n l = true → ∀ g, g + 1 = l.length → kQ n (l.getD g 0) (n - 1) = 0
  | [], _, g, h => absurd h (by simp)
  | [t], h, g, hg => by
    have : g = 0 := by simpa using hg
    subst this
    exact of_decide_eq_true h
  | t :: u :: l, h, 0, hg => absurd hg (by simp)
  | t :: u :: l, h, g + 1, hg => by
    rw [kNxs, Bool.and_eq_true] at h
    exact kNxs_last (u :: l) h.2 g (by simpa using hg)
theorem kt_step {n g : Nat} (h1 : 1 ≤ n) (h2 : n ≤ 6) (hg : g + 1 < kN n) : 0 < kQ n (kt n g) (n - 1) ∧ ∀ e, e < n → ks n (g + 1) e = if e < kQ n (kt n g) (n - 1) then ks n g e else if e = kQ n (kt n g) (n - 1) then ks n g e + 1 else 0 := by
  have h := List.all_eq_true.mp kT_next n (k6_mem h1 h2)
  rw [Bool.and_eq_true] at h
  have h3 := kNxs_at _ h.1 g hg
  unfold kNx at h3
  simp only [Bool.and_eq_true, decide_eq_true_eq, List.all_eq_true, List.mem_range] at h3
  exact ⟨h3.1, fun e he => h3.2 e he⟩
theorem kt_last {n g : Nat} (h1 : 1 ≤ n) (h2 : n ≤ 6) (hg : g + 1 = kN n) : kQ n (kt n g) (n - 1) = 0 := by
  have h := List.all_eq_true.mp kT_next n (k6_mem h1 h2)
  rw [Bool.and_eq_true] at h
  exact kNxs_last _ h.1 g hg
theorem kt_0 {n : Nat} (h1 : 1 ≤ n) (h2 : n ≤ 6) : kt n 0 = 0 := by
  have h := List.all_eq_true.mp kT_next n (k6_mem h1 h2)
  rw [Bool.and_eq_true, decide_eq_true_eq] at h
  unfold kt
  cases hl : kT n with
  | nil => rw [hl] at h; cases h.2
  | cons a l => rw [hl] at h; exact Option.some.inj h.2
theorem ks_0 {n e : Nat} (h1 : 1 ≤ n) (h2 : n ≤ 6) : ks n 0 e = 0 := by
  unfold ks kd
  rw [kt_0 h1 h2]
  simp
theorem kQ_le (n t : Nat) : ∀ e, kQ n t e ≤ e
  | 0 => Nat.le_refl 0
  | e + 1 => by
    have := kQ_le n t e
    rw [kQ]
    split <;> omega
/-- what lays() changes -/
def pL (a b : Nat) : Prop := a = 59 ∨ a = 60 ∨ a = 62 ∨ a = 56 ∧ b = 7
/-- the first g rows are laid, the row now is the next one -/
def LI (h0 h : zw_H) (n g : Nat) : Prop := Fr pL h0 h ∧ h.1 56 7 = nI g ∧ ∀ g', g' < g → h.1 60 g' = nI (kB n g') ∧ ∀ e, e < n → h.1 59 (6 * g' + e) = nI (ks n g' e)
theorem lay_row {h0 h : zw_H} {n g : Nat} {q : zw_H → Prop} (h1 : 1 ≤ n) (h2 : n ≤ 6) (hg : g < kN n) (I : LI h0 h n g) (hw : ∀ e, e < n → h.1 62 e = nI (ks n g e)) (k : ∀ h', LI h0 h' n (g + 1) → (∀ e, e < n → h'.1 62 e = nI (ks n g e)) → zwV 1 mX8_lays q 102 [(0, .ref 56), (1, .int (nI n)), (3, .int (nI (n - 1)))] [] h') : zwV 1 mX8_lays q 35 [(0, .ref 56), (1, .int (nI n)), (2, .int 1)] [] h := by
  have hN := (kN_le h1 h2).1
  refine rX8_lays_35 ⟨fun c => absurd c (by decide), fun _ => ?_⟩
  refine lp_up (P := fun e => ∀ h', LI h0 h' n g → (∀ e, e < n → h'.1 62 e = nI (ks n g e)) → (∀ e', e' < e → h'.1 59 (6 * g + e') = nI (ks n g e')) → zwV 1 mX8_lays q 41 [(0, .ref 56), (1, .int (nI n)), (3, .int (nI e))] [] h') (N := n) ?_ ?_ 0 (by omega) h I hw (fun _ h => absurd h (by omega))
  · intro h' I' hw' rows
    obtain ⟨fr, e7, old⟩ := I'
    refine rX8_lays_41 ⟨fun _ => ca (c_X8_greatest h2 (fun e => ?_) hw') ⟨g, e7, by omega, fun h3 e3 h4 e4 => ?_⟩, fun c => absurd (nI_le (Nat.le_refl n) (by omega)) c⟩
    · show ks n g e ≤ 100
      unfold ks kd
      omega
    · rw [gm_kb h1 h2 hg n (Nat.le_refl n)] at e3
      have hb := kB_le h1 h2 hg
      have e3' : h3 = zw_sI h' 60 g (nI (kB n g)) := by
        rw [e3]
        congr 1
        show nI (kB n g) - 1 + 1 = nI (kB n g)
        rw [show kB n g = (kB n g - 1) + 1 by omega, nI_pred, nI_1]
      have f3 : Fr pL h' h3 := Fr.rf.sI e3' (Or.inr (Or.inl rfl))
      have f4 : Fr pL h' h4 := f3.sI e4 (Or.inr (Or.inr (Or.inr ⟨rfl, rfl⟩)))
      have x7 : h3.1 56 7 = nI g := by rw [e3', zw_sI_n (Or.inl (by decide))]; exact e7
      have x4 : ∀ a b, a ≠ 56 → h4.1 a b = h3.1 a b := fun a b ha => by rw [e4, zw_sI_n (Or.inl ha)]
      rw [show nI n - 1 = nI (n - 1) by rw [show n = (n - 1) + 1 by omega, nI_pred]; rfl]
      refine k h4 ⟨fr.tr f4, by rw [e4, zw_sI_s, x7, nI_1], fun g' hg' => ?_⟩ (fun e he => ?_)
      · rw [x4 60 _ (by decide)]
        by_cases hx : g' = g
        · subst hx
          refine ⟨by rw [e3', zw_sI_s], fun e he => ?_⟩
          rw [x4 59 _ (by decide), e3', zw_sI_n (Or.inl (by decide))]
          exact rows e he
        · have := old g' (by omega)
          refine ⟨by rw [e3', zw_sI_n (Or.inr hx)]; exact this.1, fun e he => ?_⟩
          rw [x4 59 _ (by decide), e3', zw_sI_n (Or.inl (by decide))]
          exact this.2 e he
      · rw [x4 62 _ (by decide), e3', zw_sI_n (Or.inl (by decide))]
        exact hw' e he
  · intro e he ih h' I' hw' rows
    obtain ⟨fr, e7, old⟩ := I'
    refine rX8_lays_41 ⟨fun c => ?_, fun _ => ⟨e, rfl, by omega, 6 * g + e, ?_, by omega, fun h7 e7' => ?_⟩⟩
    · have := zle c
      omega
    · rw [e7, show (6 : Int32) = nI 6 from rfl, pk_mul, nI_add]
    · have x : ∀ a b, a ≠ 59 → h7.1 a b = h'.1 a b := fun a b ha => by rw [e7', zw_sI_n (Or.inl ha)]
      rw [nI_1]
      refine ih h7 ⟨fr.tr (Fr.rf.sI e7' (Or.inl rfl)), by rw [x 56 _ (by decide)]; exact e7, fun g' hg' => ?_⟩ (fun e he => by rw [x 62 _ (by decide)]; exact hw' e he) (fun e' he' => ?_)
      · have := old g' hg'
        refine ⟨by rw [x 60 _ (by decide)]; exact this.1, fun e'' he'' => ?_⟩
        rw [e7', zw_sI_n (Or.inr (by omega))]
        exact this.2 e'' he''
      · by_cases hx : e' = e
        · subst hx
          rw [e7', zw_sI_s]
          exact hw' e' he
        · rw [e7', zw_sI_n (Or.inr (by omega))]
          exact rows e' (by omega)
theorem ks_100 (n g e : Nat) : ks n g e ≤ 100 := by
  unfold ks kd
  omega
theorem lay_down {h : zw_H} {n g : Nat} {q : zw_H → Prop} (h1 : 1 ≤ n) (h2 : n ≤ 6) (hg : g < kN n) (hw : ∀ e, e < n → h.1 62 e = nI (ks n g e)) : ∀ e, e < n → (∀ e0, kQ n (kt n g) e = e0 → zwV 1 mX8_lays q 102 [(0, .ref 56), (1, .int (nI n)), (3, .int (nI e0))] [] h) → zwV 1 mX8_lays q 102 [(0, .ref 56), (1, .int (nI n)), (3, .int (nI e))] [] h
  | 0, _, k => k 0 rfl
  | e + 1, he, k => by
    by_cases hx : kd n (kt n g) (e + 1) < kb n (kt n g) (e + 1)
    · exact k (e + 1) (by rw [kQ, if_pos hx])
    · have ih := lay_down h1 h2 hg hw e (by omega) (fun e0 he0 => k e0 (by rw [kQ, if_neg hx]; exact he0))
      have hk := ks_100 n g (e + 1)
      have hb := (ks_grow h1 h2 hg he).2.1
      refine rX8_lays_102 ⟨fun c => ?_, fun _ => ⟨e + 1, rfl, by omega, ca (c_X8_greatest (k := e + 1) (by omega) (ks_100 n g) (fun e' he' => hw e' (by omega))) ⟨fun c => ?_, fun _ => ?_⟩⟩⟩
      · have := zle (b := 0) c
        omega
      · rw [hw (e + 1) he, gm_kb h1 h2 hg (e + 1) (by omega), gm_cmp (by omega) (by omega)] at c
        have : ks n g (e + 1) = kd n (kt n g) (e + 1) := rfl
        omega
      · rw [pk_m1]
        exact ih
theorem c_X8_lays {h : zw_H} {n : Nat} (h1 : 1 ≤ n) (h2 : n ≤ 6) (h57 : h.1 57 0 = nI n) : zcV 1 mX8_lays [.ref 56] h (fun h' => RT h' n ∧ Fr pL h h') := by
  have hN := kN_le h1 h2
  refine zcV_of rfl pn_X8 (fun _ => Nat.le_of_ble_eq_true rfl) rfl (rX8_lays_0 (fun ha ea => ?_))
  rw [h57]
  have Fa : Fr pL h ha := Fr.rf.sI ea (Or.inr (Or.inr (Or.inr ⟨rfl, rfl⟩)))
  have ha7 : ha.1 56 7 = nI 0 := by rw [ea, zw_sI_s]; rfl
  generalize hq : (fun h' : zw_H => RT h' n ∧ Fr pL h h') = q
  have main : ∀ h', LI h h' n 0 → (∀ e, e < n → h'.1 62 e = nI (ks n 0 e)) → zwV 1 mX8_lays q 35 [(0, .ref 56), (1, .int (nI n)), (2, .int 1)] [] h' := by
    refine lp_up (P := fun g => ∀ h', LI h h' n g → (∀ e, e < n → h'.1 62 e = nI (ks n g e)) → zwV 1 mX8_lays q 35 [(0, .ref 56), (1, .int (nI n)), (2, .int 1)] [] h') (N := kN n - 1) ?_ ?_ 0 (by omega)
    · intro h' I hw
      refine lay_row h1 h2 (by omega) I hw (fun h2' I2 hw2 => lay_down h1 h2 (show kN n - 1 < kN n by omega) hw2 (n - 1) (by omega) (fun e0 he0 => ?_))
      rw [kt_last h1 h2 (by omega)] at he0
      subst he0
      refine rX8_lays_102 ⟨fun _ => ⟨fun _ => ⟨fun _ => ?_, fun c => absurd rfl c⟩, fun c => absurd (by decide) c⟩, fun c => absurd (by decide) c⟩
      refine rX8_lays_35 ⟨fun _ => ?_, fun c => absurd rfl c⟩
      rw [← hq]
      obtain ⟨fr, e7, old⟩ := I2
      rw [show kN n - 1 + 1 = kN n by omega] at e7 old
      refine ⟨⟨h1, h2, ?_, e7, fun g hg => (old g hg).1, fun g e hg he => (old g hg).2 e he⟩, fr⟩
      rw [fr.1 57 0 (by unfold pL; omega)]
      exact h57
    · intro g hg ih h' I hw
      obtain ⟨s1, s2⟩ := kt_step h1 h2 (show g + 1 < kN n by omega)
      have hQ := kQ_le n (kt n g) (n - 1)
      refine lay_row h1 h2 (by omega) I hw (fun h2' I2 hw2 => lay_down h1 h2 (show g < kN n by omega) hw2 (n - 1) (by omega) (fun e0 he0 => ?_))
      rw [he0] at s1 s2 hQ
      have hk := ks_100 n g e0
      have hb := (ks_grow h1 h2 (show g < kN n by omega) (show e0 < n by omega)).2.1
      have pv : ks n g e0 + 1 ≤ kb n (kt n g) e0 := by
        have key : ∀ e, kQ n (kt n g) e = e0 → 0 < e0 → kd n (kt n g) e0 < kb n (kt n g) e0 := by
          intro e
          induction e with
          | zero => intro hz h0; rw [kQ] at hz; omega
          | succ e ih2 =>
            intro hz h0
            rw [kQ] at hz
            by_cases hx : kd n (kt n g) (e + 1) < kb n (kt n g) (e + 1)
            · rw [if_pos hx] at hz; rw [← hz]; exact hx
            · rw [if_neg hx] at hz; exact ih2 hz h0
        exact key (n - 1) he0 s1
      refine rX8_lays_102 ⟨fun c => ?_, fun _ => ⟨e0, rfl, by omega, ca (c_X8_greatest (k := e0) (by omega) (ks_100 n g) (fun e' he' => hw2 e' (by omega))) ⟨fun _ => ⟨fun c => ?_, fun _ => ⟨fun c => absurd c (by decide), fun _ => ⟨e0, rfl, by omega, e0, rfl, by omega, fun h3 e3 => ?_⟩⟩⟩, fun c => ?_⟩⟩⟩
      · have := zle (b := 0) c
        omega
      · have := zle (b := 0) c
        omega
      · rw [hw2 e0 (by omega), nI_1] at e3
        have I3 : LI h h3 n (g + 1) := by
          obtain ⟨fr, e7, old⟩ := I2
          have x : ∀ a b, a ≠ 62 → h3.1 a b = h2'.1 a b := fun a b ha => by rw [e3, zw_sI_n (Or.inl ha)]
          exact ⟨fr.sI e3 (Or.inr (Or.inr (Or.inl rfl))), by rw [x _ _ (by decide)]; exact e7, fun g' hg' => ⟨by rw [x _ _ (by decide)]; exact (old g' hg').1, fun e he => by rw [x _ _ (by decide)]; exact (old g' hg').2 e he⟩⟩
        have w3 : ∀ e, e ≤ e0 → h3.1 62 e = nI (ks n (g + 1) e) := by
          intro e he
          rw [s2 e (by omega)]
          by_cases hx : e = e0
          · subst hx
            rw [if_neg (by omega), if_pos rfl, e3, zw_sI_s]
          · rw [if_pos (by omega), e3, zw_sI_n (Or.inr hx)]
            exact hw2 e (by omega)
        rw [nI_1]
        refine lp_up (P := fun f => ∀ h4, LI h h4 n (g + 1) → (∀ e, e < f → h4.1 62 e = nI (ks n (g + 1) e)) → e0 < f → zwV 1 mX8_lays q 155 [(0, .ref 56), (1, .int (nI n)), (2, .int 1), (4, .int (nI f))] [] h4) (N := n) ?_ ?_ (e0 + 1) (by omega) h3 I3 (fun e he => w3 e (by omega)) (by omega)
        · intro h4 I4 w4 _
          exact rX8_lays_155 ⟨fun _ => ih h4 I4 w4, fun c => absurd (nI_le (Nat.le_refl n) (by omega)) c⟩
        · intro f hf ih2 h4 I4 w4 hef
          refine rX8_lays_155 ⟨fun c => ?_, fun _ => ⟨f, rfl, by omega, fun h5 e5 => ?_⟩⟩
          · have := zle c
            omega
          · rw [nI_1]
            obtain ⟨fr, e7, old⟩ := I4
            have x : ∀ a b, a ≠ 62 → h5.1 a b = h4.1 a b := fun a b ha => by rw [e5, zw_sI_n (Or.inl ha)]
            refine ih2 h5 ⟨fr.sI e5 (Or.inr (Or.inr (Or.inl rfl))), by rw [x _ _ (by decide)]; exact e7, fun g' hg' => ⟨by rw [x _ _ (by decide)]; exact (old g' hg').1, fun e he => by rw [x _ _ (by decide)]; exact (old g' hg').2 e he⟩⟩ (fun e he => ?_) (by omega)
            by_cases hx : e = f
            · subst hx
              rw [e5, zw_sI_s, s2 e hf, if_neg (by omega), if_neg (by omega)]
              rfl
            · rw [e5, zw_sI_n (Or.inr hx)]
              exact w4 e (by omega)
      · rw [hw2 e0 (by omega), gm_kb h1 h2 (by omega) e0 (by omega), gm_cmp (by omega) (by omega)] at c
        exact absurd pv c
  refine lp_up (P := fun e => ∀ h', Fr pL h h' → h'.1 56 7 = nI 0 → (∀ e', e' < e → h'.1 62 e' = 0) → zwV 1 mX8_lays q 14 [(0, .ref 56), (1, .int (nI n)), (2, .int (nI e))] [] h') (N := 6) ?_ ?_ 0 (by omega) ha Fa ha7 (fun _ h => absurd h (by omega))
  · intro h' fr e7 zs
    refine rX8_lays_14 ⟨fun _ => main h' ⟨fr, e7, fun _ h => absurd h (by omega)⟩ (fun e he => ?_), fun c => absurd (by decide) c⟩
    rw [zs e (by omega), ks_0 h1 h2]
    rfl
  · intro e he ih h' fr e7 zs
    refine rX8_lays_14 ⟨fun c => ?_, fun _ => ⟨e, rfl, by omega, fun h5 e5 => ?_⟩⟩
    · have := zle (a := 6) c
      omega
    · rw [nI_1]
      refine ih h5 (fr.sI e5 (Or.inr (Or.inr (Or.inl rfl)))) (by rw [e5, zw_sI_n (Or.inl (by decide))]; exact e7) (fun e' he' => ?_)
      by_cases hx : e' = e
      · subst hx
        rw [e5, zw_sI_s]
      · rw [e5, zw_sI_n (Or.inr hx)]
        exact zs e' (by omega)
theorem RP.fr {P : Nat → Nat → Prop} {h h' : zw_H} {s : zS} (T : RP h s) (f : Fr P h h') (p : ∀ b, ¬ P 57 b) : RP h' s := by
  obtain ⟨p1, p2, p3, p4, p5, p6, p7⟩ := T
  exact ⟨by rw [f.1 _ _ (p _)]; exact p1, by rw [f.1 _ _ (p _)]; exact p2, by rw [f.1 _ _ (p _)]; exact p3, by rw [f.1 _ _ (p _)]; exact p4, by rw [f.1 _ _ (p _)]; exact p5, by rw [f.1 _ _ (p _)]; exact p6, fun r hr => by rw [f.1 _ _ (p _)]; exact p7 r hr⟩
theorem RA.fr {P : Nat → Nat → Prop} {h h' : zw_H} {s : zS} (A : RA h s) (f : Fr P h h') (p1 : ∀ b, ¬ P 61 b) (p2 : ¬ P 56 8) : RA h' s := ⟨fun g hg => by rw [f.1 _ _ (p1 g)]; exact A.1 g hg, by rw [f.1 _ _ p2]; exact A.2⟩
def pA (a b : Nat) : Prop := a = 61 ∨ a = 56 ∧ b = 8
theorem c_X8_admits {h : zw_H} {s : zS} (V : SV s) (T : RT h s.1) (Pg : RP h s) : zcV 4 mX8_admits [.ref 56] h (fun h' => RA h' s ∧ Fr pA h h') := by
  obtain ⟨h1, h2, h3, h4, h5, h6⟩ := id T
  have hN := (kN_le h1 h2).1
  refine zcV_of rfl pn_X8 (fun _ => Nat.le_of_ble_eq_true rfl) rfl (rX8_admits_0 (fun ha ea => ?_))
  refine lp_up (P := fun g => ∀ h', Fr pA h h' → h'.1 56 8 = nI (fb_ct (adm s) g) → (∀ g', g' < g → h'.1 61 g' = if adm s g' = true then nI (ix s g') else -9) → zwV 4 mX8_admits (fun h' => RA h' s ∧ Fr pA h h') 7 [(0, .ref 56), (1, .int (nI g))] [] h') (N := kN s.1) ?_ ?_ 0 (by omega) ha (Fr.rf.sI ea (Or.inr ⟨rfl, rfl⟩)) (by rw [ea, zw_sI_s]; rfl) (fun _ h => absurd h (by omega))
  · intro h' fr e8 rows
    exact rX8_admits_7 ⟨fun _ => ⟨⟨rows, e8⟩, fr⟩, fun c => absurd (by rw [fr.1 56 7 (by unfold pA; omega), h4]; exact nI_le (Nat.le_refl _) (by omega)) c⟩
  · intro g hg ih h' fr e8 rows
    have hr := rsn_le s g
    refine rX8_admits_7 ⟨fun c => ?_, fun _ => ⟨g, rfl, by omega, fun hb eb => ?_⟩⟩
    · rw [fr.1 56 7 (by unfold pA; omega), h4] at c
      have := zle c
      omega
    · have frb : Fr pA h hb := fr.sI eb (Or.inl rfl)
      have Tb : RT hb s.1 := T.fr frb (by unfold pA; omega) (by unfold pA; omega) (fun _ => by unfold pA; omega) (fun _ => by unfold pA; omega)
      have Pb : RP hb s := Pg.fr frb (fun _ => by unfold pA; omega)
      refine ca (c_X8_reason V Tb Pb hg) ⟨fun c => ?_, fun c => ⟨g, rfl, by omega, fun hc ec hd ed => ?_⟩⟩
      · have ha : adm s g = false := decide_eq_false (zne (b := 0) c)
        rw [nI_1]
        refine ih hb frb (by rw [eb, zw_sI_n (Or.inl (by decide)), e8, fb_ct_succ, ha]; rfl) (fun g' hg' => ?_)
        by_cases hx : g' = g
        · subst hx
          rw [eb, zw_sI_s, ha]
          rfl
        · rw [eb, zw_sI_n (Or.inr hx)]
          exact rows g' (by omega)
      · have ha : adm s g = true := decide_eq_true (zeq (b := 0) c)
        have x8 : hb.1 56 8 = nI (ix s g) := by rw [eb, zw_sI_n (Or.inl (by decide))]; exact e8
        rw [x8] at ec
        have y8 : hc.1 56 8 = nI (ix s g) := by rw [ec, zw_sI_n (Or.inl (by decide))]; exact x8
        rw [nI_1]
        refine ih hd ((frb.sI ec (Or.inl rfl)).sI ed (Or.inr ⟨rfl, rfl⟩)) (by rw [ed, zw_sI_s, y8, fb_ct_succ, ha, nI_1]; rfl) (fun g' hg' => ?_)
        rw [ed, zw_sI_n (Or.inl (by decide))]
        by_cases hx : g' = g
        · subst hx
          rw [ec, zw_sI_s, ha]
          rfl
        · rw [ec, zw_sI_n (Or.inr hx), eb, zw_sI_n (Or.inr hx)]
          exact rows g' (by omega)
