noncomputable def btB (s : zS) (a b g : Nat) : Bool := dB (btw s a b g)
noncomputable def szN (s : zS) (a b : Nat) : Nat := fb_ct (btB s a b) (kN s.1)
/-- the place of an admitted partition of the interval -/
noncomputable def pos (s : zS) (a b g : Nat) : Nat := szN s a b - 1 - fb_ct (btB s a b) g
/-- the partition at a place -/
noncomputable def sg (s : zS) (a b i : Nat) : Nat := (fs (fun g => btB s a b g && decide (fb_ct (btB s a b) g = szN s a b - 1 - i)) 0 (kN s.1)).getD 0
theorem bt_ct {s : zS} {a b g : Nat} (hg : g < kN s.1) (h : btw s a b g) : fb_ct (btB s a b) g < szN s a b := by
  have := fb_ct_mono (btB s a b) (show g + 1 ≤ kN s.1 by omega)
  rw [fb_ct_succ, if_pos (show btB s a b g = true from dB_t.mpr h)] at this
  exact this
theorem sg_ok {s : zS} {a b i : Nat} (hi : i < szN s a b) : sg s a b i < kN s.1 ∧ btw s a b (sg s a b i) ∧ fb_ct (btB s a b) (sg s a b i) = szN s a b - 1 - i := by
  obtain ⟨g, g1, g2, g3⟩ := fb_ct_kth (p := btB s a b) (k := szN s a b - 1 - i) (n := kN s.1) (by unfold szN at *; omega)
  unfold sg
  cases hx : fs (fun g => btB s a b g && decide (fb_ct (btB s a b) g = szN s a b - 1 - i)) 0 (kN s.1) with
  | none =>
    have := fs_none.mp hx g (by omega) (by omega)
    rw [g2, g3] at this
    simp at this
  | some c =>
    obtain ⟨_, h2, h3, _⟩ := fs_some hx
    rw [Bool.and_eq_true, decide_eq_true_eq] at h3
    show c < kN s.1 ∧ btw s a b c ∧ fb_ct (btB s a b) c = szN s a b - 1 - i
    exact ⟨by omega, dB_t.mp h3.1, h3.2⟩
theorem sg_pos {s : zS} {a b g : Nat} (hg : g < kN s.1) (h : btw s a b g) : pos s a b g < szN s a b ∧ sg s a b (pos s a b g) = g := by
  have h1 := bt_ct hg h
  have h2 : pos s a b g < szN s a b := by unfold pos; omega
  obtain ⟨x1, x2, x3⟩ := sg_ok h2
  refine ⟨h2, fb_ct_kth_one (p := btB s a b) (dB_t.mpr x2) (dB_t.mpr h) ?_⟩
  rw [x3]
  unfold pos
  omega
theorem sg_inj {s : zS} {a b i j : Nat} (hi : i < szN s a b) (hj : j < szN s a b) (e : sg s a b i = sg s a b j) : i = j := by
  have h1 := (sg_ok hi).2.2
  have h2 := (sg_ok hj).2.2
  rw [e] at h1
  omega
/-- what is strictly below stands before -/
theorem sg_ord {s : zS} {a b i j : Nat} (n1 : 1 ≤ s.1) (n2 : s.1 ≤ 6) (hi : i < szN s a b) (hj : j < szN s a b) (h : le s.1 (sg s a b i) (sg s a b j)) (hne : i ≠ j) : i < j := by
  obtain ⟨x1, x2, x3⟩ := sg_ok hi
  obtain ⟨y1, y2, y3⟩ := sg_ok hj
  have hne2 : sg s a b i ≠ sg s a b j := fun z => hne (sg_inj hi hj z)
  have := le_ord n1 n2 x1 y1 h hne2
  have := fb_ct_mono (btB s a b) (show sg s a b j + 1 ≤ sg s a b i by omega)
  rw [fb_ct_succ, if_pos (show btB s a b (sg s a b j) = true from dB_t.mpr y2)] at this
  omega
theorem sL_front (f : Nat → Int64) : ∀ n, sL f (n + 1) = f 0 + sL (fun i => f (i + 1)) n
  | 0 => by
    rw [sL, sL, sL, Int64.zero_add, Int64.add_zero]
  | n + 1 => by
    rw [sL, sL_front f n, sL, Int64.add_assoc]
theorem sL_rev (f : Nat → Int64) : ∀ c, sL (fun i => f (c - 1 - i)) c = sL f c
  | 0 => rfl
  | c + 1 => by
    have h := sL_front (fun i => f (c + 1 - 1 - i)) c
    have e : sL (fun i => f (c + 1 - 1 - (i + 1))) c = sL f c := by
      rw [← sL_rev f c]
      refine sL_cong (fun k hk => ?_)
      rw [show c + 1 - 1 - (k + 1) = c - 1 - k by omega]
    rw [h]
    show f (c + 1 - 1 - 0) + sL (fun i => f (c + 1 - 1 - (i + 1))) c = _
    rw [e, sL, Int64.add_comm]
    rfl
/-- a sum along the interval -/
theorem sL_span {s : zS} {a b : Nat} {F : Nat → Int64} (hF : ∀ w, w < kN s.1 → ¬ btw s a b w → F w = 0) : sL (fun i => F (sg s a b i)) (szN s a b) = sL F (kN s.1) := by
  have key : ∀ g, g ≤ kN s.1 → sL (fun j => F (sg s a b (szN s a b - 1 - j))) (fb_ct (btB s a b) g) = sL F g := fun g => by
    induction g with
    | zero => intro _; rfl
    | succ g ih =>
      intro hg
      have ih := ih (by omega)
      rw [fb_ct_succ, sL]
      by_cases h : btw s a b g
      · obtain ⟨x1, x2⟩ := sg_pos (show g < kN s.1 by omega) h
        rw [if_pos (show btB s a b g = true from dB_t.mpr h), sL, ih]
        show sL F g + F (sg s a b (pos s a b g)) = _
        rw [x2]
      · rw [if_neg (by rw [show btB s a b g = false from dB_f.mpr h]; decide), Nat.add_zero, ih, hF g (by omega) h, Int64.add_zero]
  have := key (kN s.1) (Nat.le_refl _)
  rw [← this]
  exact (sL_rev (fun i => F (sg s a b i)) (szN s a b)).symm
theorem sL_cut {f : Nat → Int64} {i : Nat} : ∀ {n : Nat}, i ≤ n → (∀ k, i ≤ k → k < n → f k = 0) → sL f n = sL f i
  | 0, h, _ => by rw [show i = 0 by omega]
  | n + 1, h, z => by
    by_cases hx : i = n + 1
    · rw [hx]
    · rw [sL, z n (by omega) (by omega), Int64.add_zero]
      exact sL_cut (by omega) (fun k h1 h2 => z k h1 (by omega))
/-- the interval of the class -/
def SN (h : zw_H) (s : zS) (a b : Nat) : Prop := h.1 43 4 = nI (szN s a b) ∧ ∀ i, i < szN s a b → h.1 44 i = nI (km s.1 (sg s a b i)) ∧ h.1 45 i = nI (kB s.1 (sg s a b i))
theorem SN.fr {P : Nat → Nat → Prop} {h h' : zw_H} {s : zS} {a b : Nat} (S : SN h s a b) (f : Fr P h h') (p : ∀ a b, 43 ≤ a → a ≤ 45 → ¬ P a b) : SN h' s a b := ⟨by rw [f.1 _ _ (p _ _ (by omega) (by omega))]; exact S.1, fun i hi => ⟨by rw [f.1 _ _ (p _ _ (by omega) (by omega))]; exact (S.2 i hi).1, by rw [f.1 _ _ (p _ _ (by omega) (by omega))]; exact (S.2 i hi).2⟩⟩
theorem szN_le (s : zS) (a b : Nat) : szN s a b ≤ kN s.1 := fb_ct_le _ _
theorem c_X4_select {h : zw_H} {s : zS} {a b : Nat} (n1 : 1 ≤ s.1) (n2 : s.1 ≤ 6) (C : CR h s) (ha : a < kN s.1) (hb : b < kN s.1) : zcV 1 mX4_select [.ref 43, .ref 37, .int (nI (km s.1 a)), .int (nI (km s.1 b))] h (fun h' => SN h' s a b ∧ Fr (fun a _ => 43 ≤ a ∧ a ≤ 45) h h') := by
  have hN := (kN_le n1 n2).1
  have hc := cnt_le s
  have hs := szN_le s a b
  have ma := km_lt n1 n2 ha
  have mb := km_lt n1 n2 hb
  refine zcV_of rfl pn_X4 (fun _ => Nat.le_of_ble_eq_true rfl) rfl (rX4_select_0 (fun k1 e1 => ?_))
  generalize hQ : (fun (h' : zw_H) => SN h' s a b ∧ Fr (fun a _ => 43 ≤ a ∧ a ≤ 45) h h') = Q
  have v1 : k1.1 37 5 = nI (cnt s) := by rw [e1, zw_sI_n (Or.inl (by decide))]; exact C.1
  rw [v1]
  -- how many come ahead of a place of the roster
  have cb : ∀ k, k < cnt s → fb_ct (fun k => btB s a b (nth s k)) k = fb_ct (btB s a b) (nth s k) := fun k hk => by
    obtain ⟨x1, x2, x3⟩ := nth_ok hk
    have h1 := ct_ix (s := s) (btB s a b) (nth s k) (by omega)
    rw [x3] at h1
    rw [h1]
    refine fb_ct_cong (fun g hg => ?_)
    cases hx : btB s a b g with
    | false => rw [Bool.and_false]
    | true =>
      rw [(dB_t.mp hx).1]
      rfl
  have call : fb_ct (fun k => btB s a b (nth s k)) (cnt s) = szN s a b := by
    have h1 := ct_ix (s := s) (btB s a b) (kN s.1) (Nat.le_refl _)
    have e : ix s (kN s.1) = cnt s := rfl
    rw [e] at h1
    rw [h1]
    refine fb_ct_cong (fun g hg => ?_)
    cases hx : btB s a b g with
    | false => rw [Bool.and_false]
    | true =>
      rw [(dB_t.mp hx).1]
      rfl
  have down : ∀ m, m ≤ cnt s → ∀ k, Fr (fun a _ => 43 ≤ a ∧ a ≤ 45) h k → k.1 43 4 = nI (szN s a b - fb_ct (fun k => btB s a b (nth s k)) m) → (∀ j, m ≤ j → j < cnt s → btw s a b (nth s j) → k.1 44 (pos s a b (nth s j)) = nI (km s.1 (nth s j)) ∧ k.1 45 (pos s a b (nth s j)) = nI (kB s.1 (nth s j))) → zwV 1 mX4_select Q 13 [(0, .ref 43), (1, .ref 37), (2, .int (nI (km s.1 a))), (3, .int (nI (km s.1 b))), (4, .int (nI m - 1))] [] k := by
    intro m
    induction m with
    | zero =>
      intro _ k fr sz en
      refine rX4_select_13 ⟨fun _ => ?_, fun c => absurd (by decide) c⟩
      rw [← hQ]
      refine ⟨⟨sz, fun i hi => ?_⟩, fr⟩
      obtain ⟨x1, x2, x3⟩ := sg_ok hi
      obtain ⟨y1, y2⟩ := nth_ix x1 x2.1
      have := en _ (Nat.zero_le _) y1 (by rw [y2]; exact x2)
      rw [y2] at this
      have ep : pos s a b (sg s a b i) = i := by
        unfold pos
        rw [x3]
        omega
      rw [ep] at this
      exact this
    | succ m ih =>
      intro hm k fr sz en
      have hk : m < cnt s := by omega
      have C' : CR k s := C.fr fr (by omega) (fun _ _ _ _ => by omega)
      obtain ⟨x1, x2, x3⟩ := nth_ok hk
      have mm := km_lt n1 n2 x1
      have em : nI m + -1 = nI m - 1 := by rw [Int32.sub_eq_add_neg]
      have le1 := fb_ct_mono (fun k => btB s a b (nth s k)) (show m + 1 ≤ cnt s by omega)
      rw [call] at le1
      rw [fb_ct_succ] at sz le1
      have no : ¬ btw s a b (nth s m) → zwV 1 mX4_select Q 13 [(0, .ref 43), (1, .ref 37), (2, .int (nI (km s.1 a))), (3, .int (nI (km s.1 b))), (4, .int (nI m + -1))] [] k := fun n => by
        rw [em]
        rw [if_neg (by rw [show btB s a b (nth s m) = false from dB_f.mpr n]; decide), Nat.add_zero] at sz
        refine ih (by omega) k fr sz (fun j h1 h2 h3 => ?_)
        by_cases hx : j = m
        · rw [hx] at h3
          exact absurd h3 n
        · exact en j (by omega) h2 h3
      rw [nI_pred]
      refine rX4_select_13 ⟨fun c => absurd c (nI_pos (by omega)), fun _ => ⟨m, rfl, by omega, ?_⟩⟩
      rw [(C'.2.1 m hk).1]
      refine ca (c_X7_isBelow k (by omega) (by omega)) ⟨fun c => no (fun z => bI_0.mp c z.2.1), fun c => ca (c_X7_isBelow k (by omega) (by omega)) ⟨fun c2 => no (fun z => bI_0.mp c2 z.2.2), fun c2 => ?_⟩⟩
      have yes : btw s a b (nth s m) := ⟨x2, bI_yes c, bI_yes c2⟩
      have yb : btB s a b (nth s m) = true := dB_t.mpr yes
      rw [if_pos yb] at sz le1
      have ep : szN s a b - (fb_ct (fun k => btB s a b (nth s k)) m + 1) = pos s a b (nth s m) := by
        rw [cb m hk]
        unfold pos
        omega
      obtain ⟨p1, p2⟩ := sg_pos x1 yes
      refine ⟨pos s a b (nth s m), by rw [sz, ep], by omega, fun h5 e5 => ⟨m, rfl, by omega, pos s a b (nth s m), ?_, by omega, fun h8 e8 => fun h9 e9 => ?_⟩⟩
      · rw [e5, zw_sI_n (Or.inl (by decide)), sz, ep]
      · have v40 : h5.1 40 m = nI (kB s.1 (nth s m)) := by rw [e5, zw_sI_n (Or.inl (by decide))]; exact (C'.2.1 m hk).2.2
        rw [v40] at e8
        have v43 : h8.1 43 4 = nI (pos s a b (nth s m)) := by rw [e8, zw_sI_n (Or.inl (by decide)), e5, zw_sI_n (Or.inl (by decide)), sz, ep]
        rw [v43, nI_1] at e9
        rw [em]
        refine ih (by omega) h9 (((fr.sI e5 (by omega)).sI e8 (by omega)).sI e9 (by omega)) ?_ (fun j h1 h2 h3 => ?_)
        · rw [e9, zw_sI_s]
          congr 1
          rw [← ep]
          omega
        · by_cases hx : j = m
          · rw [hx]
            refine ⟨?_, ?_⟩
            · rw [e9, zw_sI_n (Or.inl (by decide)), e8, zw_sI_n (Or.inl (by decide)), e5, zw_sI_s]
            · rw [e9, zw_sI_n (Or.inl (by decide)), e8, zw_sI_s]
          · obtain ⟨q1, q2⟩ := en j (by omega) h2 h3
            have hne : pos s a b (nth s j) ≠ pos s a b (nth s m) := fun z => by
              have a1 := (sg_pos (nth_ok h2).1 h3).2
              rw [z, p2] at a1
              have a2 := (nth_ok h2).2.2
              rw [← a1, x3] at a2
              omega
            refine ⟨?_, ?_⟩
            · rw [e9, zw_sI_n (Or.inl (by decide)), e8, zw_sI_n (Or.inl (by decide)), e5, zw_sI_n (Or.inr hne)]
              exact q1
            · rw [e9, zw_sI_n (Or.inl (by decide)), e8, zw_sI_n (Or.inr hne), e5, zw_sI_n (Or.inl (by decide))]
              exact q2
  refine down (cnt s) (Nat.le_refl _) k1 (Fr.rf.sI e1 (by omega)) ?_ (fun j h1 h2 => absurd h1 (by omega))
  rw [e1, zw_sI_s, call, Nat.sub_self]
  rfl
theorem c_X7_selectSpan {h : zw_H} {A : zA} {r s : Int32} (W : CW h A) (d1 : wr1 A.1 r = 0) (d2 : wr1 A.1 s = 0) : zcV 2 mX7_selectSpan [.ref 0, .int r, .int s] h (fun h' => SN h' A.1 (rgt A.1 r) (rgt A.1 s) ∧ Fr pQ h h') := by
  obtain ⟨a, a1, a2, a3, a4, a5⟩ := W.reg d1
  obtain ⟨b, b1, b2, b3, b4, b5⟩ := W.reg d2
  refine zcV_of rfl pn_X7 (fun _ => Nat.le_of_ble_eq_true rfl) rfl (rX7_selectSpan_0 ⟨a, a2, a1, b, b2, b1, ?_⟩)
  rw [a5, b5]
  exact caV (c_X4_select W.1.1.1 W.1.1.2.1 W.2.2.2.2.2.2 a4 b4) (fun k q => ⟨q.1, q.2.mo (fun a b z => by unfold pQ; omega)⟩)
theorem m7_interval {h : zw_H} {A : zA} {r s : Int32} (W : CW h A) : zcI 3 mX7_interval [.ref 0, .int r, .int s] h (opC h (gd (wr2 A.1 r s) (nI (inN A.1 (rgt A.1 r) (rgt A.1 s) (kN A.1.1))), A)) := by
  refine zcI_of rfl pn_X7 (fun _ => Nat.le_of_ble_eq_true rfl) rfl (rX7_interval_0 (ca (c_X7_faultOf W) ⟨fun c => ?_, fun c => ?_⟩))
  · rw [fo_1] at c
    obtain ⟨d1, d2⟩ := wr2_0 c
    rw [gd_0 c]
    refine caV (c_X7_selectSpan W d1 d2) (fun k q => ?_)
    rw [q.1.1]
    exact W.ans q.2 _
  · rw [fo_1] at c ⊢
    rw [gd_f c]
    exact W.same _
