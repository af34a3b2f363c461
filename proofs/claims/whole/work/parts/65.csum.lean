theorem c_X7_power {h : zw_H} {x : Int32} {k : Nat} (hk : k < 100) : zpL 0 mX7_power [.int x, .int (nI k)] h (pw x k) := by
  refine zcL_of rfl pn_X7 (fun _ => Nat.le_of_ble_eq_true rfl) rfl (rX7_power_0 ?_)
  generalize hr : pw x k = res
  refine lp_up (P := fun i => zwL 0 mX7_power (fun x h' => x = res ∧ h' = h) 5 [(0, .int x), (1, .int (nI k)), (2, .long (pw x i)), (4, .int (nI i))] [] h) (N := k) ?_ ?_ 0 (by omega)
  · exact rX7_power_5 ⟨fun _ => ⟨hr, rfl⟩, fun c => absurd (nI_le (Nat.le_refl _) (by omega)) c⟩
  · intro i hi ih
    refine rX7_power_5 ⟨fun c => ?_, fun _ => ?_⟩
    · have := zle c
      omega
    · rw [nI_1]
      exact ih
theorem c_X7_isBase {h : zw_H} {x : Int32} : zpI 0 mX7_isBase [.int x] h (bI (bs9 x)) := by
  refine zcI_of rfl pn_X7 (fun _ => Nat.le_of_ble_eq_true rfl) rfl (rX7_isBase_0 ?_)
  exact ⟨fun c => ⟨(bI_f (fun z => z.1 c)).symm, rfl⟩, fun c => ⟨fun c2 => ⟨(bI_f (fun z => z.2 c2)).symm, rfl⟩, fun c2 => ⟨(bI_t ⟨c, c2⟩).symm, rfl⟩⟩⟩
theorem c_X7_blockCountOf2 {h : zw_H} {A : zA} {g : Nat} (W : CW h A) (hg : g < kN A.1.1) : zcI 3 mX7_blockCountOf [.ref 0, .int (nI (km A.1.1 g))] h (fun x h' => x = nI (kB A.1.1 g) ∧ Fr (fun a _ => 48 ≤ a ∧ a ≤ 50) h h') := by
  refine zcI_of rfl pn_X7 (fun _ => Nat.le_of_ble_eq_true rfl) rfl (rX7_blockCountOf_0 ?_)
  rw [W.2.2.1.1]
  exact caV (c_X3_spell zs_48 zs_49 zs_50 (by omega) (by omega) (by omega) W.1.1.1 W.1.1.2.1 hg) (fun k r => ⟨r.1.2.1, r.2.mo (fun a b z => by unfold pSh at z; omega)⟩)
theorem fRS_fo {s : zS} {r q x : Int32} : fo s r q (bI (bs9 x)) = fRS s r q x := by
  unfold fRS
  by_cases h : bs9 x
  · rw [bI_t h, fo_1, if_pos h]
  · rw [bI_f h, fo_0, if_neg h]
theorem m7_rankSum {h : zw_H} {A : zA} {r s x : Int32} (W : CW h A) : zcL 4 mX7_rankSum [.ref 0, .int r, .int s, .int x] h (opCL h (gdV (fRS A.1 r s x) (sL (rsT A.1 (rgt A.1 r) (rgt A.1 s) x) (kN A.1.1)), A)) := by
  classical
  have n1 := W.1.1.1
  have n2 := W.1.1.2.1
  have hN := (kN_le n1 n2).1
  refine zcL_of rfl pn_X7 (fun _ => Nat.le_of_ble_eq_true rfl) rfl (rX7_rankSum_0 (ca (c_X7_isBase) (ca (c_X7_faultOf W) ⟨fun c => ?_, fun c => ?_⟩)))
  · obtain ⟨_, c2⟩ := fo_ok c
    rw [fRS_fo] at c
    obtain ⟨d1, d2⟩ := wr2_0 c2
    obtain ⟨a, a1, a2, a3, a4, a5⟩ := W.reg d1
    have hs := szN_le A.1 (rgt A.1 r) (rgt A.1 s)
    rw [gdV, if_pos c]
    refine caV (c_X7_selectSpan W d1 d2) (fun k1 r1 => ⟨a, a2, a1, ?_⟩)
    have W1 := W.fr r1.2
    rw [r1.2.1 2 a (by unfold pQ; omega), a5]
    refine cr (c_X7_blockCountOf2 W1 a4) (fun y k2 r2 => ?_)
    rw [r2.1]
    have S2 := r1.1.fr r2.2 (fun _ _ _ _ => by omega)
    have F2 : Fr pQ h k2 := r1.2.tr (r2.2.mo (fun a b z => by unfold pQ; omega))
    have hsum := sL_span (s := A.1) (a := rgt A.1 r) (b := rgt A.1 s) (F := rsT A.1 (rgt A.1 r) (rgt A.1 s) x) (fun w _ hw => if_neg hw)
    rw [← hsum]
    generalize hQ : opCL h (sL (fun i => rsT A.1 (rgt A.1 r) (rgt A.1 s) x (sg A.1 (rgt A.1 r) (rgt A.1 s) i)) (szN A.1 (rgt A.1 r) (rgt A.1 s)), A) = Q
    refine lp_up (P := fun i => zwL 4 mX7_rankSum Q 52 [(0, .ref 0), (3, .int x), (5, .int (nI (kB A.1.1 (rgt A.1 r)))), (6, .long (sL (fun i => rsT A.1 (rgt A.1 r) (rgt A.1 s) x (sg A.1 (rgt A.1 r) (rgt A.1 s) i)) i)), (8, .int (nI i))] [] k2) (N := szN A.1 (rgt A.1 r) (rgt A.1 s)) ?_ ?_ 0 (by omega)
    · refine rX7_rankSum_52 ⟨fun _ => ?_, fun c => absurd (by rw [S2.1]; exact nI_le (Nat.le_refl _) (by omega)) c⟩
      rw [← hQ]
      exact W.ansL F2 _
    · intro i hi ih
      obtain ⟨x1, x2, x3⟩ := sg_ok hi
      have hB := kB_le n1 n2 a4
      rw [sL, rsT, if_pos x2] at ih
      refine rX7_rankSum_52 ⟨fun c => ?_, fun _ => ⟨i, rfl, by omega, ?_⟩⟩
      · rw [S2.1] at c
        have := zle c
        omega
      · rw [(S2.2 i hi).2, pk_sub (le_kB n1 n2 a4 x1 x2.2.1)]
        refine caL (c_X7_power (by omega)) ?_
        rw [nI_1]
        exact ih
  · rw [fRS_fo] at c ⊢
    rw [gdV, if_neg c]
    exact W.sameL _
theorem m7_characteristic {h : zw_H} {A : zA} {r s x : Int32} (W : CW h A) : zcL 4 mX7_characteristic [.ref 0, .int r, .int s, .int x] h (opCL h (gdV (fCP A.1 r s x) (sL (cpT A.1 (rgt A.1 r) (rgt A.1 s) x) (kN A.1.1)), A)) := by
  classical
  have n1 := W.1.1.1
  have n2 := W.1.1.2.1
  have hN := (kN_le n1 n2).1
  refine zcL_of rfl pn_X7 (fun _ => Nat.le_of_ble_eq_true rfl) rfl (rX7_characteristic_0 (ca (c_X7_isBase) (ca (c_X7_faultOf W) ⟨fun c => ⟨fun z => absurd z c, fun _ => ?_⟩, fun c => ?_⟩)))
  · have e : fCP A.1 r s x = fo A.1 r s (bI (bs9 x)) := by
      unfold fCP
      by_cases hb : bs9 x
      · rw [if_pos hb]
        rw [bI_t hb, fo_1] at c ⊢
        rw [if_neg c]
      · rw [if_neg hb, bI_f hb, fo_0]
    rw [e, gdV, if_neg c]
    exact W.sameL _
  · obtain ⟨cb, c2⟩ := fo_ok c
    have cb := bI_yes cb
    obtain ⟨d1, d2⟩ := wr2_0 c2
    obtain ⟨a, a1, a2, a3, a4, a5⟩ := W.reg d1
    obtain ⟨b, b1, b2, b3, b4, b5⟩ := W.reg d2
    refine ⟨a, a2, a1, ?_⟩
    rw [a5]
    refine ca (c_X2_find n1 n2 W.2.2.2.2.2.2 a4) ⟨fun c3 => ⟨fun _ => ?_, fun z => absurd c z⟩, fun c3 => ⟨fun z => absurd z (by decide), fun _ => ?_⟩⟩
    · have aa : adm A.1 (rgt A.1 r) = true := Classical.byContradiction (fun z => c3 ((ixI_9 n1 n2 a4).mpr z))
      have e : fCP A.1 r s x = 0 := by unfold fCP; rw [if_pos cb, if_pos c2, if_pos aa]
      rw [e, gdV, if_pos rfl]
      have hs := szN_le A.1 (rgt A.1 r) (rgt A.1 s)
      refine caV (c_X7_selectSpan W d1 d2) (fun k1 r1 => caV (c_X4_putMoebius n1 n2 a4 aa r1.1) (fun k2 r2 => ⟨b, b2, b1, ?_⟩))
      have F2 : Fr pQ h k2 := r1.2.tr (r2.2.mo (fun _ _ z => p46_Q z))
      have W2 := W.fr F2
      have S2 := r1.1.fr r2.2 (fun _ _ _ _ => by omega)
      rw [F2.1 2 b (by unfold pQ; omega), b5]
      refine cr (c_X7_blockCountOf2 W2 b4) (fun y k3 r3 => ?_)
      rw [r3.1]
      have S3 := S2.fr r3.2 (fun _ _ _ _ => by omega)
      have F3 : Fr pQ h k3 := F2.tr (r3.2.mo (fun a b z => by unfold pQ; omega))
      have hsum := sL_span (s := A.1) (a := rgt A.1 r) (b := rgt A.1 s) (F := cpT A.1 (rgt A.1 r) (rgt A.1 s) x) (fun w _ hw => if_neg hw)
      rw [← hsum]
      generalize hQ : opCL h (sL (fun i => cpT A.1 (rgt A.1 r) (rgt A.1 s) x (sg A.1 (rgt A.1 r) (rgt A.1 s) i)) (szN A.1 (rgt A.1 r) (rgt A.1 s)), A) = Q
      refine lp_up (P := fun i => zwL 4 mX7_characteristic Q 89 [(0, .ref 0), (3, .int x), (5, .int (nI (kB A.1.1 (rgt A.1 s)))), (6, .long (sL (fun i => cpT A.1 (rgt A.1 r) (rgt A.1 s) x (sg A.1 (rgt A.1 r) (rgt A.1 s) i)) i)), (8, .int (nI i))] [] k3) (N := szN A.1 (rgt A.1 r) (rgt A.1 s)) ?_ ?_ 0 (by omega)
      · refine rX7_characteristic_89 ⟨fun _ => ?_, fun c => absurd (by rw [S3.1]; exact nI_le (Nat.le_refl _) (by omega)) c⟩
        rw [← hQ]
        exact W.ansL F3 _
      · intro i hi ih
        obtain ⟨x1, x2, x3⟩ := sg_ok hi
        have hB := kB_le n1 n2 x1
        rw [sL, cpT, if_pos x2] at ih
        refine rX7_characteristic_89 ⟨fun c => ?_, fun _ => ⟨i, rfl, by omega, i, rfl, by omega, ?_⟩⟩
        · rw [S3.1] at c
          have := zle c
          omega
        · rw [(S3.2 i hi).2, pk_sub (le_kB n1 n2 x1 b4 x2.2.2), r3.2.2 46 i (by omega), r2.1 i hi]
          refine caL (c_X7_power (by omega)) ?_
          rw [nI_1]
          exact ih
    · have na := (ixI_9 n1 n2 a4).mp c3
      have e : fCP A.1 r s x = -3 := by unfold fCP; rw [if_pos cb, if_pos c2, if_neg na]
      rw [e]
      exact W.sameL _
/-- below i at the place y, and the highest of these -/
def cvD (s : zS) (a b i y : Nat) : Prop := y < i ∧ le s.1 (sg s a b y) (sg s a b i)
def cvM (s : zS) (a b i y : Nat) : Prop := cvD s a b i y ∧ ∀ u, cvD s a b i u → le s.1 (sg s a b y) (sg s a b u) → u = y
theorem cvM_iff {s : zS} {a b i y : Nat} (n1 : 1 ≤ s.1) (n2 : s.1 ≤ 6) (hi : i < szN s a b) (hd : cvD s a b i y) : (∃ u, y < u ∧ cvM s a b i u ∧ le s.1 (sg s a b y) (sg s a b u)) ↔ ¬ cvM s a b i y := by
  constructor
  · rintro ⟨u, h1, h2, h3⟩ h4
    have := h4.2 u h2.1 h3
    omega
  · intro h
    have : ∃ u, u < i ∧ (cvD s a b i u ∧ le s.1 (sg s a b y) (sg s a b u) ∧ u ≠ y) := by
      apply Classical.byContradiction
      intro no
      apply h
      refine ⟨hd, fun u hu t => ?_⟩
      apply Classical.byContradiction
      intro hne
      exact no ⟨u, hu.1, hu, t, hne⟩
    classical
    obtain ⟨u, u1, ⟨u2, u3, u4⟩, u5⟩ := fb_last this
    have hyu := sg_ord n1 n2 (show y < szN s a b by have := hd.1; omega) (show u < szN s a b by omega) u3 (Ne.symm u4)
    refine ⟨u, hyu, ⟨u2, fun w hw t => ?_⟩, u3⟩
    apply Classical.byContradiction
    intro hne
    have huw := sg_ord n1 n2 (show u < szN s a b by omega) (show w < szN s a b by have := hw.1; omega) t (fun e => hne e.symm)
    exact u5 w huw hw.1 ⟨hw, le_trans u3 t, by omega⟩
/-- the highest ones below are those that it covers -/
theorem cvM_cov {s : zS} {a b i y : Nat} (n1 : 1 ≤ s.1) (n2 : s.1 ≤ 6) (hi : i < szN s a b) (hy : y < szN s a b) : cvM s a b i y ↔ cov s (sg s a b y) (sg s a b i) := by
  obtain ⟨x1, x2, x3⟩ := sg_ok hi
  obtain ⟨y1, y2, y3⟩ := sg_ok hy
  constructor
  · rintro ⟨⟨h1, h2⟩, h3⟩
    refine ⟨y2.1, x2.1, ⟨h2, fun e => by have := sg_inj hy hi e; omega⟩, fun z hz ⟨z1, z2, z3⟩ => ?_⟩
    have hb : btw s a b z := ⟨z1, le_trans y2.2.1 z2.1, le_trans z3.1 x2.2.2⟩
    obtain ⟨p1, p2⟩ := sg_pos hz hb
    have pi := sg_ord n1 n2 p1 hi (by rw [p2]; exact z3.1) (fun e => z3.2 (by rw [← p2, e]))
    have := h3 _ ⟨pi, by rw [p2]; exact z3.1⟩ (by rw [p2]; exact z2.1)
    exact z2.2 (by rw [← p2, this])
  · rintro ⟨_, _, h2, h3⟩
    have hyi := sg_ord n1 n2 hy hi h2.1 (fun e => h2.2 (by rw [e]))
    refine ⟨⟨hyi, h2.1⟩, fun u hu t => ?_⟩
    apply Classical.byContradiction
    intro hne
    obtain ⟨u1, u2, u3⟩ := sg_ok (s := s) (a := a) (b := b) (i := u) (by have := hu.1; omega)
    have hus : u < szN s a b := by have := hu.1; omega
    refine h3 _ u1 ⟨u2.1, ⟨t, fun e => hne (sg_inj hy hus e).symm⟩, ⟨hu.2, fun e => ?_⟩⟩
    have := sg_inj hus hi e
    have := hu.1
    omega
theorem c_X4_isBelowCovered {h : zw_H} {z c : Nat} {e : Nat → Nat} (hz : z < 2147483648) (hc : c ≤ 203) (he : ∀ j, j < c → e j < 2147483648 ∧ h.1 47 j = nI (e j)) : zpI 1 mX4_isBelowCovered [.ref 43, .int (nI z), .int (nI c)] h (bI (∃ j, j < c ∧ z &&& e j = z)) := by
  refine zcI_of rfl pn_X4 (fun _ => Nat.le_of_ble_eq_true rfl) rfl (rX4_isBelowCovered_0 ?_)
  generalize hr : bI (∃ j, j < c ∧ z &&& e j = z) = res
  refine lp_up (P := fun j => (∀ j', j' < j → ¬ z &&& e j' = z) → zwI 1 mX4_isBelowCovered (fun x h' => x = res ∧ h' = h) 2 [(0, .ref 43), (1, .int (nI z)), (2, .int (nI c)), (3, .int (nI j))] [] h) (N := c) ?_ ?_ 0 (by omega) (fun _ h => absurd h (by omega))
  · intro inv
    refine rX4_isBelowCovered_2 ⟨fun _ => ⟨?_, rfl⟩, fun d => absurd (nI_le (Nat.le_refl _) (by omega)) d⟩
    rw [← hr, bI_f]
    rintro ⟨j, h1, h2⟩
    exact inv j h1 h2
  · intro j hj ih inv
    obtain ⟨a1, a2⟩ := he j hj
    refine rX4_isBelowCovered_2 ⟨fun d => ?_, fun _ => ⟨j, rfl, by omega, ?_⟩⟩
    · have := zle d
      omega
    · rw [a2]
      refine ca (c_X7_isBelow h hz a1) ⟨fun d => ?_, fun d => ⟨?_, rfl⟩⟩
      · rw [nI_1]
        refine ih (fun j' hj' => ?_)
        by_cases hx : j' = j
        · rw [hx]; exact bI_0.mp d
        · exact inv j' (by omega)
      · rw [← hr]
        exact (bI_t ⟨j, hj, bI_yes d⟩).symm
noncomputable def cvT (s : zS) (a b : Nat) (V : Nat → Int64) (i y : Nat) : Int64 := by classical exact if cvM s a b i y then V y else 0
noncomputable def cvB (s : zS) (a b i m : Nat) : Bool := dB (cvM s a b i (i - 1 - m))
theorem c_X4_sumCovered {h : zw_H} {s : zS} {a b i : Nat} {V : Nat → Int64} (n1 : 1 ≤ s.1) (n2 : s.1 ≤ 6) (S : SN h s a b) (hi : i < szN s a b) (hV : ∀ y, y < i → h.2 46 y = V y) : zcL 2 mX4_sumCovered [.ref 43, .int (nI i)] h (fun x h' => x = sL (cvT s a b V i) i ∧ Fr (fun a _ => a = 47) h h') := by
  classical
  have hN := (kN_le n1 n2).1
  have hs := szN_le s a b
  refine zcL_of rfl pn_X4 (fun _ => Nat.le_of_ble_eq_true rfl) rfl (rX4_sumCovered_0 ?_)
  rw [← sL_rev (cvT s a b V i) i]
  generalize hQ : (fun (x : Int64) (h' : zw_H) => x = sL (fun m => cvT s a b V i (i - 1 - m)) i ∧ Fr (fun a _ => a = 47) h h') = Q
  have go : ∀ m, m ≤ i → ∀ k, Fr (fun a _ => a = 47) h k → (∀ m', m' < m → cvB s a b i m' = true → k.1 47 (fb_ct (cvB s a b i) m') = nI (km s.1 (sg s a b (i - 1 - m')))) → zwL 2 mX4_sumCovered Q 10 [(0, .ref 43), (1, .int (nI i)), (2, .long (sL (fun m => cvT s a b V i (i - 1 - m)) m)), (4, .int (nI (fb_ct (cvB s a b i) m))), (5, .int (nI (i - m) - 1))] [] k := by
    refine lp_up ?_ ?_
    · intro k fr ar
      refine rX4_sumCovered_10 ⟨fun _ => ?_, fun c => absurd (by rw [Nat.sub_self]; decide) c⟩
      rw [← hQ]
      exact ⟨rfl, fr⟩
    · intro m hm ih k fr ar
      have S' := S.fr fr (fun _ _ _ _ => by omega)
      have hy : i - 1 - m < i := by omega
      have hys : i - 1 - m < szN s a b := by omega
      have m1 := km_lt n1 n2 (sg_ok hys).1
      have m2 := km_lt n1 n2 (sg_ok hi).1
      have ei : nI (i - m) - 1 = nI (i - 1 - m) := by
        rw [show i - m = (i - 1 - m) + 1 by omega, nI_pred]
      have ei2 : nI (i - 1 - m) + -1 = nI (i - (m + 1)) - 1 := by
        rw [show i - (m + 1) = i - 1 - m by omega, Int32.sub_eq_add_neg]
      have hct : fb_ct (cvB s a b i) m ≤ m := fb_ct_le _ _
      rw [sL, fb_ct_succ] at ih
      rw [ei]
      have no : ¬ cvM s a b i (i - 1 - m) → zwL 2 mX4_sumCovered Q 10 [(0, .ref 43), (1, .int (nI i)), (2, .long (sL (fun m => cvT s a b V i (i - 1 - m)) m)), (4, .int (nI (fb_ct (cvB s a b i) m))), (5, .int (nI (i - 1 - m) + -1))] [] k := fun n => by
        rw [ei2]
        rw [cvT, if_neg n, Int64.add_zero, if_neg (by rw [show cvB s a b i m = false from dB_f.mpr n]; decide), Nat.add_zero] at ih
        refine ih k fr (fun m' hm' hb => ?_)
        by_cases hx : m' = m
        · rw [hx] at hb
          exact absurd (dB_t.mp hb) n
        · exact ar m' (by omega) hb
      refine rX4_sumCovered_10 ⟨fun c => absurd c (nI_pos (by omega)), fun _ => ⟨i - 1 - m, rfl, by omega, i, rfl, by omega, ?_⟩⟩
      rw [(S'.2 _ hys).1, (S'.2 i hi).1]
      refine ca (c_X7_isBelow k (by omega) (by omega)) ⟨fun c => no (fun z => bI_0.mp c z.1.2), fun c => ⟨i - 1 - m, rfl, by omega, ?_⟩⟩
      have hd : cvD s a b i (i - 1 - m) := ⟨hy, bI_yes c⟩
      rw [(S'.2 _ hys).1]
      have kth : ∀ j, ∃ i', j < fb_ct (cvB s a b i) m → (i' < m ∧ cvB s a b i i' = true ∧ fb_ct (cvB s a b i) i' = j) := fun j => by
        by_cases hj : j < fb_ct (cvB s a b i) m
        · obtain ⟨i', x⟩ := fb_ct_kth hj
          exact ⟨i', fun _ => x⟩
        · exact ⟨0, fun z => absurd z hj⟩
      have hch := fun j => Classical.choose_spec (kth j)
      generalize hf : (fun j => Classical.choose (kth j)) = f
      have hf' : ∀ j, Classical.choose (kth j) = f j := fun j => by rw [← hf]
      simp only [hf'] at hch
      have ct := c_X4_isBelowCovered (h := k) (z := km s.1 (sg s a b (i - 1 - m))) (c := fb_ct (cvB s a b i) m) (e := fun j => km s.1 (sg s a b (i - 1 - f j))) (by omega) (by omega) (fun j hj => by
        obtain ⟨x1, x2, x3⟩ := hch j hj
        have := km_lt n1 n2 (sg_ok (s := s) (a := a) (b := b) (show i - 1 - f j < szN s a b by omega)).1
        refine ⟨by omega, ?_⟩
        have := ar (f j) x1 x2
        rw [x3] at this
        exact this)
      have key : (∃ j, j < fb_ct (cvB s a b i) m ∧ km s.1 (sg s a b (i - 1 - m)) &&& km s.1 (sg s a b (i - 1 - f j)) = km s.1 (sg s a b (i - 1 - m))) ↔ ¬ cvM s a b i (i - 1 - m) := by
        rw [← cvM_iff n1 n2 hi hd]
        constructor
        · rintro ⟨j, hj, ht⟩
          obtain ⟨x1, x2, x3⟩ := hch j hj
          exact ⟨i - 1 - f j, by omega, dB_t.mp x2, ht⟩
        · rintro ⟨u, h1, h2, h3⟩
          have hu := h2.1.1
          have eu : i - 1 - (i - 1 - u) = u := by omega
          have hb' : cvB s a b i (i - 1 - u) = true := by
            refine dB_t.mpr ?_
            rw [eu]
            exact h2
          have hlt : fb_ct (cvB s a b i) (i - 1 - u) < fb_ct (cvB s a b i) m := by
            have := fb_ct_mono (cvB s a b i) (show (i - 1 - u) + 1 ≤ m by omega)
            rw [fb_ct_succ, if_pos hb'] at this
            omega
          obtain ⟨x1, x2, x3⟩ := hch _ hlt
          have e : f (fb_ct (cvB s a b i) (i - 1 - u)) = i - 1 - u := fb_ct_kth_one x2 hb' x3
          refine ⟨_, hlt, ?_⟩
          rw [e, eu]
          exact h3
      refine ca ct ⟨fun c2 => no (key.mp (bI_yes c2)), fun c2 => ⟨i - 1 - m, rfl, by omega, _, rfl, by omega, fun h8 e8 => ⟨i - 1 - m, rfl, by omega, ?_⟩⟩⟩
      have yes : cvM s a b i (i - 1 - m) := Classical.byContradiction (fun z => bI_0.mp c2 (key.mpr z))
      have hb' : cvB s a b i m = true := dB_t.mpr yes
      have v46 : h8.2 46 (i - 1 - m) = V (i - 1 - m) := by
        rw [e8]
        show k.2 46 (i - 1 - m) = _
        rw [fr.2 46 _ (by omega)]
        exact hV _ hy
      rw [(S'.2 _ hys).1] at e8
      rw [v46, nI_1, ei2]
      rw [cvT, if_pos yes, if_pos hb'] at ih
      refine ih h8 (fr.sI e8 rfl) (fun m' hm' hb => ?_)
      by_cases hx : m' = m
      · rw [hx, e8, zw_sI_s]
      · have hlt : fb_ct (cvB s a b i) m' < fb_ct (cvB s a b i) m := by
          have := fb_ct_mono (cvB s a b i) (show m' + 1 ≤ m by omega)
          rw [fb_ct_succ, if_pos hb] at this
          omega
        rw [e8, zw_sI_n (Or.inr (by omega))]
        exact ar m' (by omega) hb
  exact go 0 (Nat.zero_le _) h Fr.rf (fun _ h => absurd h (by omega))
theorem mxF_no {s : zS} {a : Nat} : ∀ f w, ¬ le s.1 a w → mxF s a f w = 0
  | 0, _, _ => rfl
  | f + 1, w, h => by
    classical
    rw [mxF, if_neg (fun z => h (by rw [z]; exact le_refl _ _))]
    have e : sL (fun u => if cov s u w then mxF s a f u else 0) (kN s.1) = sL (fun _ => 0) (kN s.1) := sL_cong (fun u hu => by
      by_cases hc : cov s u w
      · rw [if_pos hc, mxF_no f u (fun z => h (le_trans z hc.2.2.1.1))]
      · rw [if_neg hc])
    have z0 : ∀ n, sL (fun _ => 0) n = 0 := fun n => by
      induction n with
      | zero => rfl
      | succ n ih => rw [sL, ih]; rfl
    rw [e, z0]
/-- the sum over what is covered -/
theorem mx_span {s : zS} {a b i : Nat} (n1 : 1 ≤ s.1) (n2 : s.1 ≤ 6) (hi : i < szN s a b) : sL (cvT s a b (fun y => mx s a (sg s a b y)) i) i = sL (mxT s a (sg s a b i)) (kN s.1) := by
  classical
  have hsup : ∀ w, w < kN s.1 → ¬ btw s a b w → mxT s a (sg s a b i) w = 0 := fun w hw hb => by
    unfold mxT
    by_cases hc : cov s w (sg s a b i)
    · rw [if_pos hc]
      unfold mx
      exact mxF_no 7 w (fun q => hb ⟨hc.1, q, le_trans hc.2.2.1.1 (sg_ok hi).2.1.2.2⟩)
    · rw [if_neg hc]
  have h1 := sL_span hsup
  have h2 : sL (fun y => mxT s a (sg s a b i) (sg s a b y)) (szN s a b) = sL (fun y => mxT s a (sg s a b i) (sg s a b y)) i := sL_cut (by omega) (fun k k1 k2 => if_neg (fun z => by
    have := ((cvM_cov n1 n2 hi k2).mpr z).1.1
    omega))
  rw [← h1, h2]
  refine sL_cong (fun y hy => ?_)
  unfold cvT mxT
  by_cases hc : cvM s a b i y
  · rw [if_pos hc, if_pos ((cvM_cov n1 n2 hi (by omega)).mp hc)]
  · rw [if_neg hc, if_neg (fun z => hc ((cvM_cov n1 n2 hi (by omega)).mpr z))]
theorem c_X4_putMaximalChains {h : zw_H} {s : zS} {a b : Nat} (n1 : 1 ≤ s.1) (n2 : s.1 ≤ 6) (ha : a < kN s.1) (aa : adm s a = true) (S : SN h s a b) : zcV 3 mX4_putMaximalChains [.ref 43] h (fun h' => (∀ i, i < szN s a b → h'.2 46 i = mx s a (sg s a b i)) ∧ Fr (fun a _ => a = 46 ∨ a = 47) h h') := by
  have hN := (kN_le n1 n2).1
  have hs := szN_le s a b
  refine zcV_of rfl pn_X4 (fun _ => Nat.le_of_ble_eq_true rfl) rfl (rX4_putMaximalChains_0 (caV (c_X4_startAtFirst n1 n2 S) (fun k0 r0 => ?_)))
  generalize hQ : (fun (h' : zw_H) => (∀ i, i < szN s a b → h'.2 46 i = mx s a (sg s a b i)) ∧ Fr (fun a _ => a = 46 ∨ a = 47) h h') = Q
  have F0 : Fr (fun a _ => a = 46 ∨ a = 47) h k0 := r0.2.mo (fun _ _ z => Or.inl z)
  have S0 := S.fr F0 (fun _ _ _ _ => by omega)
  by_cases hz : szN s a b = 0
  · refine rX4_putMaximalChains_6 ⟨fun _ => ?_, fun c => absurd (by rw [S0.1, hz]; decide) c⟩
    rw [← hQ]
    exact ⟨fun i hi => absurd hi (by omega), F0⟩
  · have hp : 0 < szN s a b := by omega
    have e0 := sg_first n1 n2 ha aa hp
    refine lp_up (P := fun i => ∀ k, Fr (fun a _ => a = 46 ∨ a = 47) h k → (∀ i', i' < i → k.2 46 i' = mx s a (sg s a b i')) → 0 < i → zwV 3 mX4_putMaximalChains Q 6 [(0, .ref 43), (1, .int (nI i))] [] k) (N := szN s a b) ?_ ?_ 1 (by omega) k0 F0 (fun i hi => ?_) (by omega)
    · intro k fr inv _
      have S' := S.fr fr (fun _ _ _ _ => by omega)
      refine rX4_putMaximalChains_6 ⟨fun _ => ?_, fun c => absurd (by rw [S'.1]; exact nI_le (Nat.le_refl _) (by omega)) c⟩
      rw [← hQ]
      exact ⟨inv, fr⟩
    · intro i hi ih k fr inv hip
      have S' := S.fr fr (fun _ _ _ _ => by omega)
      obtain ⟨x1, x2, x3⟩ := sg_ok hi
      have hne : sg s a b i ≠ a := fun z => by
        have := sg_inj hi hp (z.trans e0.symm)
        omega
      refine rX4_putMaximalChains_6 ⟨fun c => ?_, fun _ => crL (c_X4_sumCovered n1 n2 S' hi (V := fun y => mx s a (sg s a b y)) (fun y hy => inv y hy)) (fun x k1 r1 => ⟨i, rfl, by omega, fun k2 e2 => ?_⟩)⟩
      · rw [S'.1] at c
        have := zle c
        omega
      · rw [r1.1] at e2
        rw [nI_1]
        refine ih k2 ((fr.tr (r1.2.mo (fun _ _ z => Or.inr z))).sL e2 (Or.inl rfl)) (fun i' hi' => ?_) (by omega)
        by_cases hx : i' = i
        · rw [hx, e2, zw_sL_s, mx_span n1 n2 hi, (mx_eq (a := a) n1 n2 x1).2 hne]
        · rw [e2, zw_sL_n (Or.inr hx), r1.2.2 46 i' (by omega)]
          exact inv i' (by omega)
    · rw [r0.1 i (by omega), if_pos (by omega), show i = 0 by omega, e0, (mx_eq (a := a) n1 n2 ha).1 rfl]
theorem m7_maximalChains {h : zw_H} {A : zA} {r s : Int32} (W : CW h A) : zcL 4 mX7_maximalChains [.ref 0, .int r, .int s] h (opCL h (gdL (wr3 A.1 r s) (mx A.1 (rgt A.1 r) (rgt A.1 s)), A)) := by
  have n1 := W.1.1.1
  have n2 := W.1.1.2.1
  refine zcL_of rfl pn_X7 (fun _ => Nat.le_of_ble_eq_true rfl) rfl (rX7_maximalChains_0 (ca (c_X7_faultOfAdmitted W) ⟨fun c => ?_, fun c => ?_⟩))
  · rw [foA_1] at c
    obtain ⟨c2, aa, ab⟩ := wr3_0 c
    obtain ⟨d1, d2⟩ := wr2_0 c2
    obtain ⟨a, a1, a2, a3, a4⟩ := rgt_ok W.1.1 d1
    obtain ⟨b, b1, b2, b3, b4⟩ := rgt_ok W.1.1 d2
    rw [gdL, if_pos c]
    refine caV (c_X7_selectSpan W d1 d2) (fun k1 r1 => caV (c_X4_putMaximalChains n1 n2 a4 aa r1.1) (fun k2 r2 => caL (c_X4_lastValue n1 n2 (r1.1.fr r2.2 (fun _ _ _ _ => by omega)) (fun hz => ?_) (fun hp => ?_)) (W.ansL (r1.2.tr (r2.2.mo (fun a b z => by unfold pQ; omega))) _)))
    · exact mxF_no 7 _ (fun z => by
        have := szN_pos a4 aa z
        omega)
    · rw [r2.1 _ (by omega), sg_last n1 n2 b4 ab hp]
  · rw [foA_1] at c ⊢
    rw [gdL, if_neg c]
    exact W.sameL _
