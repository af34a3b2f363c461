/-- the i-th candidate, from the limit away -/
def en (s : zS) (down : Bool) (i : Nat) : Nat := if down = true then nth s i else nth s (cnt s - 1 - i)
/-- towards the limit -/
def tw (n : Nat) (down : Bool) (z w : Nat) : Prop := if down = true then le n z w else le n w z
/-- a candidate: on the right side of the limit, and not the one that is left out -/
def cnd (n L : Nat) (down : Bool) (v : Int32) (z : Nat) : Prop := (if down = true then km n z &&& L = km n z else L &&& km n z = L) ∧ nI (km n z) ≠ v
/-- a nearest candidate -/
def nst (s : zS) (L : Nat) (down : Bool) (v : Int32) (z : Nat) : Prop := cnd s.1 L down v z ∧ ∀ i, i < cnt s → cnd s.1 L down v (en s down i) → tw s.1 down z (en s down i) → en s down i = z
noncomputable def nsB (s : zS) (L : Nat) (down : Bool) (v : Int32) (i : Nat) : Bool := dB (nst s L down v (en s down i))
theorem en_ok {s : zS} {down : Bool} {i : Nat} (hi : i < cnt s) : en s down i < kN s.1 ∧ adm s (en s down i) = true := by
  unfold en
  split
  · exact ⟨(nth_ok hi).1, (nth_ok hi).2.1⟩
  · have := nth_ok (s := s) (k := cnt s - 1 - i) (by omega)
    exact ⟨this.1, this.2.1⟩
theorem en_inj {s : zS} {down : Bool} {i j : Nat} (hi : i < cnt s) (hj : j < cnt s) (e : en s down i = en s down j) : i = j := by
  unfold en at e
  split at e
  · have h1 := (nth_ok hi).2.2
    have h2 := (nth_ok hj).2.2
    rw [e] at h1
    omega
  · have h1 := (nth_ok (s := s) (k := cnt s - 1 - i) (by omega)).2.2
    have h2 := (nth_ok (s := s) (k := cnt s - 1 - j) (by omega)).2.2
    rw [e] at h1
    omega
theorem tw_trans {n : Nat} {down : Bool} {a b c : Nat} (x : tw n down a b) (y : tw n down b c) : tw n down a c := by
  unfold tw at *
  split at x
  · rename_i h
    rw [if_pos h] at *
    exact le_trans x y
  · rename_i h
    rw [if_neg h] at *
    exact le_trans y x
/-- what is towards the limit comes first -/
theorem tw_ord {s : zS} {down : Bool} {i j : Nat} (n1 : 1 ≤ s.1) (n2 : s.1 ≤ 6) (hi : i < cnt s) (hj : j < cnt s) (h : tw s.1 down (en s down i) (en s down j)) (hne : en s down i ≠ en s down j) : j < i := by
  have hij : i ≠ j := fun z => hne (by rw [z])
  unfold tw en at h
  unfold en at hne
  by_cases hd : down = true
  · rw [if_pos hd, if_pos hd, if_pos hd] at h
    rw [if_pos hd, if_pos hd] at hne
    obtain ⟨a1, a2, a3⟩ := nth_ok hi
    obtain ⟨b1, b2, b3⟩ := nth_ok hj
    have := ix_lt (le_ord n1 n2 a1 b1 h hne) b2
    omega
  · rw [if_neg hd, if_neg hd, if_neg hd] at h
    rw [if_neg hd, if_neg hd] at hne
    obtain ⟨a1, a2, a3⟩ := nth_ok (s := s) (k := cnt s - 1 - i) (by omega)
    obtain ⟨b1, b2, b3⟩ := nth_ok (s := s) (k := cnt s - 1 - j) (by omega)
    have := ix_lt (le_ord n1 n2 b1 a1 h (Ne.symm hne)) a2
    omega
/-- behind a nearest one: not nearest -/
theorem nst_iff {s : zS} {L : Nat} {down : Bool} {v : Int32} {i : Nat} (n1 : 1 ≤ s.1) (n2 : s.1 ≤ 6) (hi : i < cnt s) (hc : cnd s.1 L down v (en s down i)) : (∃ j, j < i ∧ nst s L down v (en s down j) ∧ tw s.1 down (en s down i) (en s down j)) ↔ ¬ nst s L down v (en s down i) := by
  constructor
  · rintro ⟨j, h1, h2, h3⟩ h4
    have := en_inj (by omega) hi (h4.2 j (by omega) h2.1 h3)
    omega
  · intro h
    have : ∃ j, j < cnt s ∧ (cnd s.1 L down v (en s down j) ∧ tw s.1 down (en s down i) (en s down j) ∧ en s down j ≠ en s down i) := by
      apply Classical.byContradiction
      intro no
      apply h
      refine ⟨hc, fun j hj c t => ?_⟩
      apply Classical.byContradiction
      intro hne
      exact no ⟨j, hj, c, t, hne⟩
    classical
    obtain ⟨j, j1, ⟨j2, j3, j4⟩, j5⟩ := fb_first this
    have hji := tw_ord n1 n2 hi j1 j3 (Ne.symm j4)
    refine ⟨j, hji, ⟨j2, fun u u1 u2 u3 => ?_⟩, j3⟩
    apply Classical.byContradiction
    intro hne
    have huj := tw_ord n1 n2 j1 u1 u3 (Ne.symm hne)
    refine j5 u huj ⟨u2, tw_trans j3 u3, fun z => ?_⟩
    have := en_inj u1 hi z
    omega
theorem c_X2_isBehindNearest {h : zw_H} {z c : Nat} {a : Nat → Nat} {v : Int32} {down : Bool} (hv : v = 0 ↔ down = false) (hz : z < 2147483648) (hc : c ≤ 203) (sz : h.1 37 6 = nI c) (ha : ∀ j, j < c → a j < 2147483648 ∧ h.1 42 j = nI (a j)) : zpI 1 mX2_isBehindNearest [.ref 37, .int (nI z), .int v] h (bI (∃ j, j < c ∧ (if down = true then z &&& a j = z else a j &&& z = a j))) := by
  refine zcI_of rfl pn_X2 (fun _ => Nat.le_of_ble_eq_true rfl) rfl (rX2_isBehindNearest_0 ?_)
  generalize hr : bI (∃ j, j < c ∧ (if down = true then z &&& a j = z else a j &&& z = a j)) = res
  refine lp_up (P := fun j => (∀ j', j' < j → ¬ (if down = true then z &&& a j' = z else a j' &&& z = a j')) → zwI 1 mX2_isBehindNearest (fun x h' => x = res ∧ h' = h) 2 [(0, .ref 37), (1, .int (nI z)), (2, .int v), (3, .int (nI j))] [] h) (N := c) ?_ ?_ 0 (by omega) (fun _ h => absurd h (by omega))
  · intro inv
    refine rX2_isBehindNearest_2 ⟨fun _ => ⟨?_, rfl⟩, fun d => absurd (by rw [sz]; exact nI_le (Nat.le_refl _) (by omega)) d⟩
    rw [← hr, bI_f]
    rintro ⟨j, h1, h2⟩
    exact inv j h1 h2
  · intro j hj ih inv
    obtain ⟨a1, a2⟩ := ha j hj
    have no : ¬ (if down = true then z &&& a j = z else a j &&& z = a j) → zwI 1 mX2_isBehindNearest (fun x h' => x = res ∧ h' = h) 2 [(0, .ref 37), (1, .int (nI z)), (2, .int v), (3, .int (nI j + 1))] [] h := fun n => by
      rw [nI_1]
      refine ih (fun j' hj' => ?_)
      by_cases hx : j' = j
      · rw [hx]; exact n
      · exact inv j' (by omega)
    have yes : (if down = true then z &&& a j = z else a j &&& z = a j) → (1 : Int32) = res ∧ h = h := fun y => ⟨by rw [← hr]; exact (bI_t ⟨j, hj, y⟩).symm, rfl⟩
    refine rX2_isBehindNearest_2 ⟨fun d => ?_, fun _ => ⟨fun d => ⟨j, rfl, by omega, ?_⟩, fun d => ⟨j, rfl, by omega, ?_⟩⟩⟩
    · rw [sz] at d
      have := zle d
      omega
    · have hd := hv.mp d
      rw [a2]
      refine ca (c_X7_isBelow h a1 hz) ⟨fun e => no ?_, fun e => yes ?_⟩
      · rw [if_neg (by rw [hd]; decide)]
        exact bI_0.mp e
      · rw [if_neg (by rw [hd]; decide)]
        exact bI_yes e
    · have hd : down = true := by
        cases down with
        | true => rfl
        | false => exact absurd (hv.mpr rfl) d
      rw [a2]
      refine ca (c_X7_isBelow h hz a1) ⟨fun e => no ?_, fun e => yes ?_⟩
      · rw [if_pos hd]
        exact bI_0.mp e
      · rw [if_pos hd]
        exact bI_yes e
def pN (a b : Nat) : Prop := a = 42 ∨ a = 37 ∧ b = 6
theorem c_X2_findNearest {h : zw_H} {s : zS} {L : Nat} {v v3 : Int32} {down : Bool} (n1 : 1 ≤ s.1) (n2 : s.1 ≤ 6) (C : CR h s) (hL : L < 32768) (hv : v = 0 ↔ down = false) : zcV 2 mX2_findNearest [.ref 37, .int (nI L), .int v, .int v3] h (fun h' => h'.1 37 6 = nI (fb_ct (nsB s L down v3) (cnt s)) ∧ (∀ i, i < cnt s → nsB s L down v3 i = true → h'.1 42 (fb_ct (nsB s L down v3) i) = nI (km s.1 (en s down i))) ∧ Fr pN h h') := by
  have hN := (kN_le n1 n2).1
  have hc := cnt_le s
  refine zcV_of rfl pn_X2 (fun _ => Nat.le_of_ble_eq_true rfl) rfl (rX2_findNearest_0 (fun k1 e1 => ?_))
  generalize hQ : (fun (h' : zw_H) => h'.1 37 6 = nI (fb_ct (nsB s L down v3) (cnt s)) ∧ (∀ i, i < cnt s → nsB s L down v3 i = true → h'.1 42 (fb_ct (nsB s L down v3) i) = nI (km s.1 (en s down i))) ∧ Fr pN h h') = Q
  refine lp_up (P := fun i => ∀ k, Fr pN h k → k.1 37 6 = nI (fb_ct (nsB s L down v3) i) → (∀ i', i' < i → nsB s L down v3 i' = true → k.1 42 (fb_ct (nsB s L down v3) i') = nI (km s.1 (en s down i'))) → zwV 2 mX2_findNearest Q 8 [(0, .ref 37), (1, .int (nI L)), (2, .int v), (3, .int v3), (4, .int (nI i))] [] k) (N := cnt s) ?_ ?_ 0 (by omega) k1 (Fr.rf.sI e1 (Or.inr ⟨rfl, rfl⟩)) (by rw [e1, zw_sI_s]; rfl) (fun _ h => absurd h (by omega))
  · intro k fr sz ar
    have C' : CR k s := C.fr fr (by unfold pN; omega) (fun _ _ _ _ => by unfold pN; omega)
    refine rX2_findNearest_8 ⟨fun _ => ?_, fun c => absurd (by rw [C'.1]; exact nI_le (Nat.le_refl _) (by omega)) c⟩
    rw [← hQ]
    exact ⟨sz, ar, fr⟩
  · intro i hi ih k fr sz ar
    have C' : CR k s := C.fr fr (by unfold pN; omega) (fun _ _ _ _ => by unfold pN; omega)
    obtain ⟨g1, g2⟩ := en_ok (down := down) hi
    have gm := km_lt n1 n2 g1
    have hct : fb_ct (nsB s L down v3) i ≤ i := fb_ct_le _ _
    have no : ¬ nst s L down v3 (en s down i) → zwV 2 mX2_findNearest Q 8 [(0, .ref 37), (1, .int (nI L)), (2, .int v), (3, .int v3), (4, .int (nI i + 1))] [] k := fun n => by
      have hb : nsB s L down v3 i = false := dB_f.mpr n
      rw [nI_1]
      refine ih k fr ?_ (fun i' hi' hn => ?_)
      · rw [fb_ct_succ, hb]
        exact sz
      · by_cases hx : i' = i
        · rw [hx, hb] at hn
          cases hn
        · exact ar i' (by omega) hn
    have rest : (if down = true then km s.1 (en s down i) &&& L = km s.1 (en s down i) else L &&& km s.1 (en s down i) = L) → ((nI (km s.1 (en s down i)) = v3 → zwV 2 mX2_findNearest Q 8 [(0, .ref 37), (1, .int (nI L)), (2, .int v), (3, .int v3), (4, .int (nI i + 1))] [] k) ∧ (¬ nI (km s.1 (en s down i)) = v3 → ∃ q : Int32 → zw_H → Prop, zcI 1 mX2_isBehindNearest [.ref 37, .int (nI (km s.1 (en s down i))), .int v] k q ∧ ∀ (x : Int32) (h' : zw_H), q x h' → ((¬ x = 0 → zwV 2 mX2_findNearest Q 8 [(0, .ref 37), (1, .int (nI L)), (2, .int v), (3, .int v3), (4, .int (nI i + 1))] [] h') ∧ (x = 0 → ∃ j4 : Nat, h'.1 37 6 = nI j4 ∧ j4 < 203 ∧ ∀ h5 : zw_H, h5 = zw_sI h' 42 j4 (nI (km s.1 (en s down i))) → ∀ h6 : zw_H, h6 = zw_sI h5 37 6 ((h5.1 37 6) + (1 : Int32)) → zwV 2 mX2_findNearest Q 8 [(0, .ref 37), (1, .int (nI L)), (2, .int v), (3, .int v3), (4, .int (nI i + 1))] [] h6)))) := by
      intro hb
      refine ⟨fun e => no (fun z => z.1.2 e), fun ne => ?_⟩
      have hcd : cnd s.1 L down v3 (en s down i) := ⟨hb, ne⟩
      have kth : ∀ j, ∃ i', j < fb_ct (nsB s L down v3) i → (i' < i ∧ nsB s L down v3 i' = true ∧ fb_ct (nsB s L down v3) i' = j) := fun j => by
        by_cases hj : j < fb_ct (nsB s L down v3) i
        · obtain ⟨i', x⟩ := fb_ct_kth hj
          exact ⟨i', fun _ => x⟩
        · exact ⟨0, fun z => absurd z hj⟩
      have hch := fun j => Classical.choose_spec (kth j)
      generalize hf : (fun j => Classical.choose (kth j)) = f
      have hf' : ∀ j, Classical.choose (kth j) = f j := fun j => by rw [← hf]
      simp only [hf'] at hch
      have ct := c_X2_isBehindNearest (h := k) (z := km s.1 (en s down i)) (c := fb_ct (nsB s L down v3) i) (a := fun j => km s.1 (en s down (f j))) hv (by omega) (by omega) sz (fun j hj => by
        obtain ⟨x1, x2, x3⟩ := hch j hj
        have := km_lt n1 n2 (en_ok (s := s) (down := down) (show f j < cnt s by omega)).1
        refine ⟨by omega, ?_⟩
        have := ar (f j) x1 x2
        rw [x3] at this
        exact this)
      have key : (∃ j, j < fb_ct (nsB s L down v3) i ∧ (if down = true then km s.1 (en s down i) &&& km s.1 (en s down (f j)) = km s.1 (en s down i) else km s.1 (en s down (f j)) &&& km s.1 (en s down i) = km s.1 (en s down (f j)))) ↔ ¬ nst s L down v3 (en s down i) := by
        rw [← nst_iff n1 n2 hi hcd]
        constructor
        · rintro ⟨j, hj, ht⟩
          obtain ⟨x1, x2, x3⟩ := hch j hj
          exact ⟨f j, x1, dB_t.mp x2, ht⟩
        · rintro ⟨i', h1, h2, h3⟩
          have hb' : nsB s L down v3 i' = true := dB_t.mpr h2
          have hlt : fb_ct (nsB s L down v3) i' < fb_ct (nsB s L down v3) i := by
            have := fb_ct_mono (nsB s L down v3) (show i' + 1 ≤ i by omega)
            rw [fb_ct_succ, if_pos hb'] at this
            omega
          obtain ⟨x1, x2, x3⟩ := hch _ hlt
          have e : f (fb_ct (nsB s L down v3) i') = i' := fb_ct_kth_one x2 hb' x3
          refine ⟨_, hlt, ?_⟩
          rw [e]
          exact h3
      refine ca ct ⟨fun c => no (key.mp (bI_yes c)), fun c => ⟨_, sz, by omega, fun h5 e5 h6 e6 => ?_⟩⟩
      have yes : nst s L down v3 (en s down i) := Classical.byContradiction (fun z => bI_0.mp c (key.mpr z))
      have hb' : nsB s L down v3 i = true := dB_t.mpr yes
      have v5 : h5.1 37 6 = nI (fb_ct (nsB s L down v3) i) := by rw [e5, zw_sI_n (Or.inl (by decide))]; exact sz
      rw [v5, nI_1] at e6
      rw [nI_1]
      refine ih h6 ((fr.sI e5 (Or.inl rfl)).sI e6 (Or.inr ⟨rfl, rfl⟩)) ?_ (fun i' hi' hn => ?_)
      · rw [e6, zw_sI_s, fb_ct_succ, if_pos hb']
      · by_cases hx : i' = i
        · rw [hx, e6, zw_sI_n (Or.inl (by decide)), e5, zw_sI_s]
        · have hlt : fb_ct (nsB s L down v3) i' < fb_ct (nsB s L down v3) i := by
            have := fb_ct_mono (nsB s L down v3) (show i' + 1 ≤ i by omega)
            rw [fb_ct_succ, if_pos hn] at this
            omega
          rw [e6, zw_sI_n (Or.inl (by decide)), e5, zw_sI_n (Or.inr (by omega))]
          exact ar i' (by omega) hn
    refine rX2_findNearest_8 ⟨fun c => ?_, fun _ => ⟨fun d => ⟨cnt s - 1 - i, ?_, by omega, fun _ => ?_, fun d2 => absurd d d2⟩, fun d => ⟨i, rfl, by omega, fun d2 => absurd d2 d, fun _ => ?_⟩⟩⟩
    · rw [C'.1] at c
      have := zle c
      omega
    · rw [C'.1, show cnt s = (cnt s - 1) + 1 by omega, nI_pred, pk_sub (by omega)]
      rfl
    · have hd := hv.mp d
      have een : nth s (cnt s - 1 - i) = en s down i := by
        unfold en
        rw [if_neg (by rw [hd]; decide)]
      rw [(C'.2.1 _ (show cnt s - 1 - i < cnt s by omega)).1, een]
      refine ca (c_X7_isBelow k (by omega) (by omega)) ⟨fun c => no (fun z => bI_0.mp c ?_), fun c => rest ?_⟩
      · have := z.1.1
        rw [if_neg (by rw [hd]; decide)] at this
        exact this
      · rw [if_neg (by rw [hd]; decide)]
        exact bI_yes c
    · have hd : down = true := by
        cases down with
        | true => rfl
        | false => exact absurd (hv.mpr rfl) d
      have een : nth s i = en s down i := by
        unfold en
        rw [if_pos hd]
      rw [(C'.2.1 i hi).1, een]
      refine ca (c_X7_isBelow k (by omega) (by omega)) ⟨fun c => no (fun z => bI_0.mp c ?_), fun c => rest ?_⟩
      · have := z.1.1
        rw [if_pos hd] at this
        exact this
      · rw [if_pos hd]
        exact bI_yes c
/-- counting along the roster -/
theorem ct_ix {s : zS} (P : Nat → Bool) : ∀ g, g ≤ kN s.1 → fb_ct (fun k => P (nth s k)) (ix s g) = fb_ct (fun g => adm s g && P g) g
  | 0, _ => rfl
  | g + 1, hg => by
    have ih := ct_ix (s := s) P g (by omega)
    rw [ix_succ, fb_ct_succ]
    by_cases ha : adm s g = true
    · rw [if_pos ha, fb_ct_succ, ih, (nth_ix (show g < kN s.1 by omega) ha).2, ha, Bool.true_and]
    · have hz : (adm s g && P g) = false := by
        rw [Bool.eq_false_iff.mpr ha]
        rfl
      rw [if_neg ha, Nat.add_zero, ih, hz]
      rfl
theorem ct_rev (q : Nat → Bool) : ∀ c, fb_ct (fun i => q (c - 1 - i)) c = fb_ct q c
  | 0 => rfl
  | c + 1 => by
    have ih := ct_rev q c
    have h := fb_ct_split (fun i => q (c + 1 - 1 - i)) 1 c
    rw [Nat.add_comm 1 c] at h
    have e1 : fb_ct (fun i => q (c + 1 - 1 - i)) 1 = if q c = true then 1 else 0 := by
      rw [fb_ct_succ]
      show 0 + (if q (c + 1 - 1 - 0) = true then 1 else 0) = _
      rw [Nat.zero_add]
      rfl
    have e2 : fb_ct (fun k => q (c + 1 - 1 - (1 + k))) c = fb_ct q c := by
      rw [← ih]
      refine fb_ct_cong (fun k hk => ?_)
      rw [show c + 1 - 1 - (1 + k) = c - 1 - k by omega]
    rw [h, e1, e2, fb_ct_succ, Nat.add_comm]
theorem ct_en {s : zS} {down : Bool} (P : Nat → Bool) : fb_ct (fun i => P (en s down i)) (cnt s) = fb_ct (fun g => adm s g && P g) (kN s.1) := by
  have h := ct_ix (s := s) P (kN s.1) (Nat.le_refl _)
  have e : ix s (kN s.1) = cnt s := rfl
  rw [e] at h
  rw [← h]
  by_cases hd : down = true
  · refine fb_ct_cong (fun k hk => ?_)
    unfold en
    rw [if_pos hd]
  · rw [← ct_rev (fun k => P (nth s k)) (cnt s)]
    refine fb_ct_cong (fun k hk => ?_)
    unfold en
    rw [if_neg hd]
theorem en_of {s : zS} {down : Bool} {g : Nat} (hg : g < kN s.1) (ha : adm s g = true) : ∃ i, i < cnt s ∧ en s down i = g := by
  obtain ⟨h1, h2⟩ := nth_ix hg ha
  by_cases hd : down = true
  · refine ⟨ix s g, h1, ?_⟩
    unfold en
    rw [if_pos hd]
    exact h2
  · refine ⟨cnt s - 1 - ix s g, by omega, ?_⟩
    unfold en
    rw [if_neg hd, show cnt s - 1 - (cnt s - 1 - ix s g) = ix s g by omega]
    exact h2
