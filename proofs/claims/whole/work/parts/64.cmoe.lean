noncomputable def ssT (s : zS) (a b : Nat) (V : Nat → Int64) (i y : Nat) : Int64 := by classical exact if le s.1 (sg s a b y) (sg s a b i) then V y else 0
theorem c_X4_sumStrictlyBelow {h : zw_H} {s : zS} {a b i : Nat} {V : Nat → Int64} (n1 : 1 ≤ s.1) (n2 : s.1 ≤ 6) (S : SN h s a b) (hi : i < szN s a b) (hV : ∀ y, y < i → h.2 46 y = V y) : zpL 1 mX4_sumStrictlyBelow [.ref 43, .int (nI i)] h (sL (ssT s a b V i) i) := by
  have hN := (kN_le n1 n2).1
  have hs := szN_le s a b
  refine zcL_of rfl pn_X4 (fun _ => Nat.le_of_ble_eq_true rfl) rfl (rX4_sumStrictlyBelow_0 ?_)
  generalize hr : sL (ssT s a b V i) i = res
  refine lp_up (P := fun y => zwL 1 mX4_sumStrictlyBelow (fun x h' => x = res ∧ h' = h) 5 [(0, .ref 43), (1, .int (nI i)), (2, .long (sL (ssT s a b V i) y)), (4, .int (nI y))] [] h) (N := i) ?_ ?_ 0 (by omega)
  · exact rX4_sumStrictlyBelow_5 ⟨fun _ => ⟨hr, rfl⟩, fun c => absurd (nI_le (Nat.le_refl _) (by omega)) c⟩
  · intro y hy ih
    rw [sL] at ih
    have m1 := km_lt n1 n2 (sg_ok (show y < szN s a b by omega)).1
    have m2 := km_lt n1 n2 (sg_ok hi).1
    refine rX4_sumStrictlyBelow_5 ⟨fun c => ?_, fun _ => ⟨y, rfl, by omega, i, rfl, by omega, ?_⟩⟩
    · have := zle c
      omega
    rw [(S.2 y (by omega)).1, (S.2 i hi).1]
    refine ca (c_X7_isBelow h (by omega) (by omega)) ⟨fun c => ?_, fun c => ⟨y, rfl, by omega, ?_⟩⟩
    · rw [ssT, if_neg (show ¬ le s.1 (sg s a b y) (sg s a b i) from bI_0.mp c), Int64.add_zero] at ih
      rw [nI_1]
      exact ih
    · rw [ssT, if_pos (show le s.1 (sg s a b y) (sg s a b i) from bI_yes c)] at ih
      rw [nI_1, hV y hy]
      exact ih
noncomputable def blT (s : zS) (a b : Nat) (F : Nat → Int64) (z w : Nat) : Int64 := by classical exact if btw s a b w ∧ lt s.1 w z then F w else 0
/-- the sum over what is strictly below -/
theorem ss_bl {s : zS} {a b i : Nat} {F : Nat → Int64} (n1 : 1 ≤ s.1) (n2 : s.1 ≤ 6) (hi : i < szN s a b) : sL (ssT s a b (fun y => F (sg s a b y)) i) i = sL (blT s a b F (sg s a b i)) (kN s.1) := by
  classical
  have h1 := sL_span (s := s) (a := a) (b := b) (F := blT s a b F (sg s a b i)) (fun w _ hw => if_neg (fun z => hw z.1))
  have h2 : sL (fun y => blT s a b F (sg s a b i) (sg s a b y)) (szN s a b) = sL (fun y => blT s a b F (sg s a b i) (sg s a b y)) i := sL_cut (by omega) (fun k k1 k2 => if_neg (fun z => by
    have := sg_ord n1 n2 k2 hi z.2.1 (fun e => z.2.2 (by rw [e]))
    omega))
  rw [← h1, h2]
  refine sL_cong (fun y hy => ?_)
  unfold ssT blT
  by_cases hx : le s.1 (sg s a b y) (sg s a b i)
  · rw [if_pos hx, if_pos ⟨(sg_ok (show y < szN s a b by omega)).2.1, hx, fun e => by
      have := sg_inj (show y < szN s a b by omega) hi e
      omega⟩]
  · rw [if_neg hx, if_neg (fun z => hx z.2.1)]
theorem szN_le_ab {s : zS} {a b : Nat} (h : 0 < szN s a b) : le s.1 a b := le_trans (sg_ok h).2.1.2.1 (sg_ok h).2.1.2.2
theorem szN_pos {s : zS} {a b : Nat} (ha : a < kN s.1) (aa : adm s a = true) (h : le s.1 a b) : 0 < szN s a b := by
  have := (sg_pos ha (show btw s a b a from ⟨aa, le_refl _ _, h⟩)).1
  omega
theorem sg_first {s : zS} {a b : Nat} (n1 : 1 ≤ s.1) (n2 : s.1 ≤ 6) (ha : a < kN s.1) (aa : adm s a = true) (h : 0 < szN s a b) : sg s a b 0 = a := by
  have hab := szN_le_ab h
  obtain ⟨p1, p2⟩ := sg_pos ha (show btw s a b a from ⟨aa, le_refl _ _, hab⟩)
  by_cases hx : pos s a b a = 0
  · rw [hx] at p2
    exact p2
  · have := sg_ord n1 n2 p1 h (by rw [p2]; exact (sg_ok h).2.1.2.1) hx
    omega
theorem sg_last {s : zS} {a b : Nat} (n1 : 1 ≤ s.1) (n2 : s.1 ≤ 6) (hb : b < kN s.1) (ab : adm s b = true) (h : 0 < szN s a b) : sg s a b (szN s a b - 1) = b := by
  have hab := szN_le_ab h
  have hl : szN s a b - 1 < szN s a b := by omega
  obtain ⟨p1, p2⟩ := sg_pos hb (show btw s a b b from ⟨ab, hab, le_refl _ _⟩)
  by_cases hx : szN s a b - 1 = pos s a b b
  · rw [hx, p2]
  · have := sg_ord n1 n2 hl p1 (by rw [p2]; exact (sg_ok hl).2.1.2.2) hx
    omega
theorem c_X4_startAtFirst {h : zw_H} {s : zS} {a b : Nat} (n1 : 1 ≤ s.1) (n2 : s.1 ≤ 6) (S : SN h s a b) : zcV 0 mX4_startAtFirst [.ref 43] h (fun h' => (∀ i, i < szN s a b → h'.2 46 i = if i = 0 then 1 else 0) ∧ Fr (fun a _ => a = 46) h h') := by
  have hN := (kN_le n1 n2).1
  have hs := szN_le s a b
  refine zcV_of rfl pn_X4 (fun _ => Nat.le_of_ble_eq_true rfl) rfl (rX4_startAtFirst_0 ?_)
  refine lp_up (P := fun i => ∀ k, Fr (fun a _ => a = 46) h k → (∀ i', i' < i → k.2 46 i' = if i' = 0 then 1 else 0) → zwV 0 mX4_startAtFirst (fun h' => (∀ i, i < szN s a b → h'.2 46 i = if i = 0 then 1 else 0) ∧ Fr (fun a _ => a = 46) h h') 2 [(0, .ref 43), (1, .int (nI i))] [] k) (N := szN s a b) ?_ ?_ 0 (by omega) h Fr.rf (fun _ h => absurd h (by omega))
  · intro k fr inv
    have S' := S.fr fr (fun _ _ _ _ => by omega)
    exact rX4_startAtFirst_2 ⟨fun _ => ⟨inv, fr⟩, fun c => absurd (by rw [S'.1]; exact nI_le (Nat.le_refl _) (by omega)) c⟩
  · intro i hi ih k fr inv
    have S' := S.fr fr (fun _ _ _ _ => by omega)
    have go : ∀ k2 (v : Int64), v = (if i = 0 then 1 else 0) → k2 = zw_sL k 46 i v → zwV 0 mX4_startAtFirst (fun h' => (∀ i, i < szN s a b → h'.2 46 i = if i = 0 then 1 else 0) ∧ Fr (fun a _ => a = 46) h h') 2 [(0, .ref 43), (1, .int (nI i + 1))] [] k2 := fun k2 v ev e2 => by
      rw [nI_1]
      refine ih k2 (fr.sL e2 rfl) (fun i' hi' => ?_)
      by_cases hx : i' = i
      · rw [hx, e2, zw_sL_s, ev]
      · rw [e2, zw_sL_n (Or.inr hx)]
        exact inv i' (by omega)
    refine rX4_startAtFirst_2 ⟨fun c => ?_, fun _ => ⟨fun c => ⟨i, rfl, by omega, fun k2 e2 => go k2 _ ?_ e2⟩, fun c => ⟨i, rfl, by omega, fun k2 e2 => go k2 _ ?_ e2⟩⟩⟩
    · rw [S'.1] at c
      have := zle c
      omega
    · rw [if_neg (fun z => c (by rw [z]; rfl))]
    · rw [if_pos (zeq (b := 0) c)]
theorem c_X4_lastValue {h : zw_H} {s : zS} {a b : Nat} {V : Int64} (n1 : 1 ≤ s.1) (n2 : s.1 ≤ 6) (S : SN h s a b) (h0 : szN s a b = 0 → V = 0) (h1 : 0 < szN s a b → h.2 46 (szN s a b - 1) = V) : zpL 0 mX4_lastValue [.ref 43] h V := by
  have hN := (kN_le n1 n2).1
  have hs := szN_le s a b
  refine zcL_of rfl pn_X4 (fun _ => Nat.le_of_ble_eq_true rfl) rfl (rX4_lastValue_0 ?_)
  rw [S.1]
  refine ⟨fun c => ?_, fun c => ⟨(h0 (zeq (b := 0) c)).symm, rfl⟩⟩
  have hp : 0 < szN s a b := Nat.pos_of_ne_zero (fun z => c (by rw [z]; rfl))
  refine ⟨szN s a b - 1, ?_, by omega, h1 hp, rfl⟩
  rw [show szN s a b = (szN s a b - 1) + 1 by omega, nI_pred]
  rfl
theorem c_X4_putMoebius {h : zw_H} {s : zS} {a b : Nat} (n1 : 1 ≤ s.1) (n2 : s.1 ≤ 6) (ha : a < kN s.1) (aa : adm s a = true) (S : SN h s a b) : zcV 2 mX4_putMoebius [.ref 43] h (fun h' => (∀ i, i < szN s a b → h'.2 46 i = mu s a b (sg s a b i)) ∧ Fr (fun a _ => a = 46) h h') := by
  have hN := (kN_le n1 n2).1
  have hs := szN_le s a b
  refine zcV_of rfl pn_X4 (fun _ => Nat.le_of_ble_eq_true rfl) rfl (rX4_putMoebius_0 (caV (c_X4_startAtFirst n1 n2 S) (fun k0 r0 => ?_)))
  generalize hQ : (fun (h' : zw_H) => (∀ i, i < szN s a b → h'.2 46 i = mu s a b (sg s a b i)) ∧ Fr (fun a _ => a = 46) h h') = Q
  have S0 := S.fr r0.2 (fun _ _ _ _ => by omega)
  by_cases hz : szN s a b = 0
  · refine rX4_putMoebius_6 ⟨fun _ => ?_, fun c => absurd (by rw [S0.1, hz]; decide) c⟩
    rw [← hQ]
    exact ⟨fun i hi => absurd hi (by omega), r0.2⟩
  · have hp : 0 < szN s a b := by omega
    have e0 := sg_first n1 n2 ha aa hp
    refine lp_up (P := fun i => ∀ k, Fr (fun a _ => a = 46) h k → (∀ i', i' < i → k.2 46 i' = mu s a b (sg s a b i')) → 0 < i → zwV 2 mX4_putMoebius Q 6 [(0, .ref 43), (1, .int (nI i))] [] k) (N := szN s a b) ?_ ?_ 1 (by omega) k0 r0.2 (fun i hi => ?_) (by omega)
    · intro k fr inv _
      have S' := S.fr fr (fun _ _ _ _ => by omega)
      refine rX4_putMoebius_6 ⟨fun _ => ?_, fun c => absurd (by rw [S'.1]; exact nI_le (Nat.le_refl _) (by omega)) c⟩
      rw [← hQ]
      exact ⟨inv, fr⟩
    · intro i hi ih k fr inv hip
      have S' := S.fr fr (fun _ _ _ _ => by omega)
      obtain ⟨x1, x2, x3⟩ := sg_ok hi
      have hne : sg s a b i ≠ a := fun z => by
        have := sg_inj hi hp (z.trans e0.symm)
        omega
      refine rX4_putMoebius_6 ⟨fun c => ?_, fun _ => caL (c_X4_sumStrictlyBelow n1 n2 S' hi (V := fun y => mu s a b (sg s a b y)) (fun y hy => inv y hy)) ⟨i, rfl, by omega, fun k2 e2 => ?_⟩⟩
      · rw [S'.1] at c
        have := zle c
        omega
      · rw [nI_1]
        refine ih k2 (fr.sL e2 rfl) (fun i' hi' => ?_) (by omega)
        by_cases hx : i' = i
        · rw [hx, e2, zw_sL_s, ss_bl (F := fun z => mu s a b z) n1 n2 hi, (mu_eq (a := a) (b := b) n1 n2 x1).2.2 hne x2]
          rfl
        · rw [e2, zw_sL_n (Or.inr hx)]
          exact inv i' (by omega)
    · rw [r0.1 i (by omega), if_pos (by omega), show i = 0 by omega, e0, (mu_eq (a := a) (b := b) n1 n2 ha).1 rfl]
theorem CW.ansL {h k : zw_H} {A : zA} (W : CW h A) (f : Fr pQ h k) (x : Int64) : opCL h (x, A) x k := ⟨rfl, W.fr f, f.mo (fun _ _ z => pQ_C z)⟩
theorem p46_Q {a b : Nat} (z : a = 46) : pQ a b := by
  unfold pQ
  omega
theorem m7_moebius {h : zw_H} {A : zA} {r s : Int32} (W : CW h A) : zcL 3 mX7_moebius [.ref 0, .int r, .int s] h (opCL h (gdV (wr3 A.1 r s) (mu A.1 (rgt A.1 r) (rgt A.1 s) (rgt A.1 s)), A)) := by
  have n1 := W.1.1.1
  have n2 := W.1.1.2.1
  refine zcL_of rfl pn_X7 (fun _ => Nat.le_of_ble_eq_true rfl) rfl (rX7_moebius_0 (ca (c_X7_faultOfAdmitted W) ⟨fun c => ?_, fun c => ?_⟩))
  · rw [foA_1] at c
    obtain ⟨c2, aa, ab⟩ := wr3_0 c
    obtain ⟨d1, d2⟩ := wr2_0 c2
    obtain ⟨a, a1, a2, a3, a4⟩ := rgt_ok W.1.1 d1
    obtain ⟨b, b1, b2, b3, b4⟩ := rgt_ok W.1.1 d2
    rw [gdV, if_pos c]
    refine caV (c_X7_selectSpan W d1 d2) (fun k1 r1 => caV (c_X4_putMoebius n1 n2 a4 aa r1.1) (fun k2 r2 => caL (c_X4_lastValue n1 n2 (r1.1.fr r2.2 (fun _ _ _ _ => by omega)) (fun hz => ?_) (fun hp => ?_)) (W.ansL (r1.2.tr (r2.2.mo (fun _ _ z => p46_Q z))) _)))
    · have hno : ¬ le A.1.1 (rgt A.1 r) (rgt A.1 s) := fun z => by
        have := szN_pos a4 aa z
        omega
      exact (mu_eq (a := rgt A.1 r) (b := rgt A.1 s) n1 n2 b4).2.1 (fun z => hno (by rw [z]; exact le_refl _ _)) (fun z => hno z.2.1)
    · rw [r2.1 _ (by omega), sg_last n1 n2 b4 ab hp]
  · rw [foA_1] at c ⊢
    rw [gdV, if_neg c]
    exact W.sameL _
theorem sL_lN (f : Nat → Nat) : ∀ n, sL (fun k => lN (f k)) n = lN (fb_sm f n)
  | 0 => rfl
  | n + 1 => by rw [sL, sL_lN f n, fb_sm_succ, lN_add]
theorem fb_sm_none {f : Nat → Nat} : ∀ {n : Nat}, (∀ k, k < n → f k = 0) → fb_sm f n = 0
  | 0, _ => rfl
  | n + 1, h => by rw [fb_sm_succ, fb_sm_none (fun k hk => h k (by omega)), h n (by omega)]
/-- no chain from a to what isn't above it -/
theorem cH_no {s : zS} {a : Nat} : ∀ k w, ¬ le s.1 a w → cH s a k w = 0
  | 0, w, h => by
    show sgl a w = 0
    unfold sgl
    rw [if_neg (fun z => h (by rw [z]; exact le_refl _ _))]
  | k + 1, w, h => by
    show fb_sm (exT s (cH s a k) w) (kN s.1) = 0
    refine fb_sm_none (fun u hu => ?_)
    unfold exT
    split
    · rename_i hc
      exact cH_no k u (fun z => h (le_trans z hc.2.2.1))
    · rfl
theorem cH_span {s : zS} {a b j z : Nat} (hz : btw s a b z) : lN (cH s a (j + 1) z) = sL (blT s a b (fun w => lN (cH s a j w)) z) (kN s.1) := by
  classical
  show lN (fb_sm (exT s (cH s a j) z) (kN s.1)) = _
  rw [← sL_lN]
  refine sL_cong (fun w hw => ?_)
  unfold exT blT
  by_cases hb : btw s a b w ∧ lt s.1 w z
  · rw [if_pos hb, if_pos ⟨hz.1, hb.1.1, hb.2⟩]
  · rw [if_neg hb]
    by_cases hx : adm s z = true ∧ adm s w = true ∧ lt s.1 w z
    · rw [if_pos hx, cH_no j w (fun q => hb ⟨⟨hx.2.1, q, le_trans hx.2.2.1 hz.2.2⟩, hx.2.2⟩)]
      rfl
    · rw [if_neg hx]
      rfl
theorem c_X4_putChains {h : zw_H} {s : zS} {a b m : Nat} (n1 : 1 ≤ s.1) (n2 : s.1 ≤ 6) (ha : a < kN s.1) (aa : adm s a = true) (S : SN h s a b) (hm : m < 100) : zcV 2 mX4_putChains [.ref 43, .int (nI m)] h (fun h' => (∀ i, i < szN s a b → h'.2 46 i = lN (cH s a m (sg s a b i))) ∧ Fr (fun a _ => a = 46) h h') := by
  have hN := (kN_le n1 n2).1
  have hs := szN_le s a b
  refine zcV_of rfl pn_X4 (fun _ => Nat.le_of_ble_eq_true rfl) rfl (rX4_putChains_0 (caV (c_X4_startAtFirst n1 n2 S) (fun k0 r0 => ?_)))
  generalize hQ : (fun (h' : zw_H) => (∀ i, i < szN s a b → h'.2 46 i = lN (cH s a m (sg s a b i))) ∧ Fr (fun a _ => a = 46) h h') = Q
  refine lp_up (P := fun j => ∀ k, Fr (fun a _ => a = 46) h k → (∀ i, i < szN s a b → k.2 46 i = lN (cH s a j (sg s a b i))) → zwV 2 mX4_putChains Q 6 [(0, .ref 43), (1, .int (nI m)), (2, .int (nI j))] [] k) (N := m) ?_ ?_ 0 (by omega) k0 r0.2 (fun i hi => ?_)
  · intro k fr inv
    refine rX4_putChains_6 ⟨fun _ => ?_, fun c => absurd (nI_le (Nat.le_refl _) (by omega)) c⟩
    rw [← hQ]
    exact ⟨inv, fr⟩
  · intro j hj ih k fr inv
    have S' := S.fr fr (fun _ _ _ _ => by omega)
    refine rX4_putChains_6 ⟨fun c => ?_, fun _ => ?_⟩
    · have := zle c
      omega
    rw [S'.1]
    have down : ∀ t, t ≤ szN s a b → ∀ k, Fr (fun a _ => a = 46) h k → (∀ i, i < szN s a b → k.2 46 i = if i < t then lN (cH s a j (sg s a b i)) else lN (cH s a (j + 1) (sg s a b i))) → zwV 2 mX4_putChains Q 18 [(0, .ref 43), (1, .int (nI m)), (2, .int (nI j)), (3, .int (nI t - 1))] [] k := by
      intro t
      induction t with
      | zero =>
        intro _ k fr inv
        refine rX4_putChains_18 ⟨fun _ => ?_, fun c => absurd (by decide) c⟩
        rw [nI_1]
        exact ih k fr (fun i hi => by rw [inv i hi, if_neg (by omega)])
      | succ t iht =>
        intro ht k fr inv
        have S' := S.fr fr (fun _ _ _ _ => by omega)
        have hi : t < szN s a b := by omega
        have em : nI t + -1 = nI t - 1 := by rw [Int32.sub_eq_add_neg]
        rw [nI_pred]
        refine rX4_putChains_18 ⟨fun c => absurd c (nI_pos (by omega)), fun _ => caL (c_X4_sumStrictlyBelow n1 n2 S' hi (V := fun y => lN (cH s a j (sg s a b y))) (fun y hy => by rw [inv y (by omega), if_pos (by omega)])) ⟨t, rfl, by omega, fun k2 e2 => ?_⟩⟩
        rw [em]
        refine iht (by omega) k2 (fr.sL e2 rfl) (fun i hi' => ?_)
        by_cases hx : i = t
        · rw [hx, e2, zw_sL_s, if_neg (by omega), ss_bl (F := fun z => lN (cH s a j z)) n1 n2 hi, cH_span (sg_ok hi).2.1]
        · rw [e2, zw_sL_n (Or.inr hx), inv i hi']
          by_cases hy : i < t
          · rw [if_pos hy, if_pos (by omega)]
          · rw [if_neg hy, if_neg (by omega)]
    exact down (szN s a b) (Nat.le_refl _) k fr (fun i hi => by rw [if_pos hi]; exact inv i hi)
  · have e0 := sg_first (b := b) n1 n2 ha aa (by omega)
    rw [r0.1 i hi]
    show _ = lN (sgl a (sg s a b i))
    unfold sgl
    by_cases hx : i = 0
    · rw [if_pos hx, hx, if_pos e0]
      rfl
    · rw [if_neg hx, if_neg (fun z => hx (sg_inj hi (show 0 < szN s a b by omega) (z.trans e0.symm)))]
      rfl
theorem m7_chains {h : zw_H} {A : zA} {r s v : Int32} (W : CW h A) : zcL 3 mX7_chains [.ref 0, .int r, .int s, .int v] h (opCL h (gdL (fCh A.1 r s v) (lN (cH A.1 (rgt A.1 r) ((ri 6 v).getD 0) (rgt A.1 s))), A)) := by
  have n1 := W.1.1.1
  have n2 := W.1.1.2.1
  have hin := iR_in (x := v) (n := 6) (m := 5) (by omega) (by omega) rfl
  have bad : ¬ iR v 6 → fCh A.1 r s v = -1 := fun z => by
    unfold fCh
    rw [(ri_none (by omega)).mpr z]
  have f0 : foA A.1 r s 0 = -1 := if_pos rfl
  have nine : opCL h (gdL (-1) (lN (cH A.1 (rgt A.1 r) ((ri 6 v).getD 0) (rgt A.1 s))), A) (Int32.toInt64 (-1)) h := W.sameL _
  refine zcL_of rfl pn_X7 (fun _ => Nat.le_of_ble_eq_true rfl) rfl (rX7_chains_0 ⟨fun d => ca (c_X7_faultOfAdmitted W) ⟨fun c => ?_, fun _ => ?_⟩, fun d => ⟨fun d2 => ca (c_X7_faultOfAdmitted W) ⟨fun c => ?_, fun _ => ?_⟩, fun d2 => ca (c_X7_faultOfAdmitted W) ⟨fun c => ?_, fun c => ?_⟩⟩⟩)
  · rw [f0] at c
    exact absurd c (by decide)
  · rw [f0, bad (fun z => (hin.mp z).1 d)]
    exact nine
  · rw [f0] at c
    exact absurd c (by decide)
  · rw [f0, bad (fun z => (hin.mp z).2 d2)]
    exact nine
  · rw [foA_1] at c
    obtain ⟨m, hm⟩ := (ri_iR (by omega)).mp (hin.mpr ⟨d, d2⟩)
    obtain ⟨m1, rfl⟩ := ri_some hm
    have ef : fCh A.1 r s (nI m) = wr3 A.1 r s := by
      unfold fCh
      rw [hm]
    rw [ef, hm]
    obtain ⟨c2, aa, ab⟩ := wr3_0 c
    obtain ⟨d1, d2⟩ := wr2_0 c2
    obtain ⟨a, a1, a2, a3, a4⟩ := rgt_ok W.1.1 d1
    obtain ⟨b, b1, b2, b3, b4⟩ := rgt_ok W.1.1 d2
    rw [gdL, if_pos c]
    show ∃ q, _
    refine caV (c_X7_selectSpan W d1 d2) (fun k1 r1 => caV (c_X4_putChains n1 n2 a4 aa r1.1 (by omega)) (fun k2 r2 => caL (c_X4_lastValue (V := lN (cH A.1 (rgt A.1 r) m (rgt A.1 s))) n1 n2 (r1.1.fr r2.2 (fun _ _ _ _ => by omega)) (fun hz => ?_) (fun hp => ?_)) (W.ansL (r1.2.tr (r2.2.mo (fun _ _ z => p46_Q z))) _)))
    · rw [cH_no m (rgt A.1 s) (fun z => by
        have := szN_pos a4 aa z
        omega)]
      rfl
    · rw [r2.1 _ (by omega), sg_last n1 n2 b4 ab hp]
  · rw [foA_1] at c ⊢
    obtain ⟨m, hm⟩ := (ri_iR (by omega)).mp (hin.mpr ⟨d, d2⟩)
    have ef : fCh A.1 r s v = wr3 A.1 r s := by
      unfold fCh
      rw [hm]
    rw [ef, gdL, if_neg c]
    exact W.sameL _
