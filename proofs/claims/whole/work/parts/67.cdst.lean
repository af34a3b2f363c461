theorem ct_cut {p : Nat → Bool} {i : Nat} : ∀ {n : Nat}, i ≤ n → (∀ k, i ≤ k → k < n → p k = false) → fb_ct p n = fb_ct p i
  | 0, h, _ => by rw [show i = 0 by omega]
  | n + 1, h, z => by
    by_cases hx : i = n + 1
    · rw [hx]
    · rw [fb_ct_succ, z n (by omega) (by omega), ct_cut (n := n) (by omega) (fun k h1 h2 => z k h1 (by omega))]
      rfl
theorem sm_cut {p : Nat → Nat} {i : Nat} : ∀ {n : Nat}, i ≤ n → (∀ k, i ≤ k → k < n → p k = 0) → fb_sm p n = fb_sm p i
  | 0, h, _ => by rw [show i = 0 by omega]
  | n + 1, h, z => by
    by_cases hx : i = n + 1
    · rw [hx]
    · rw [fb_sm_succ, z n (by omega) (by omega), Nat.add_zero]
      exact sm_cut (by omega) (fun k h1 h2 => z k h1 (by omega))
/-- one for yes -/
def oy (b : Bool) : Nat := if b = true then 1 else 0
theorem ct_15 (f : Nat → Bool) : fb_ct f 15 = (((((((((((((((0 + oy (f 0)) + oy (f 1)) + oy (f 2)) + oy (f 3)) + oy (f 4)) + oy (f 5)) + oy (f 6)) + oy (f 7)) + oy (f 8)) + oy (f 9)) + oy (f 10)) + oy (f 11)) + oy (f 12)) + oy (f 13)) + oy (f 14)) := rfl
theorem sm_15 (f : Nat → Bool) : fb_sm (fun i => fb_ct (fun j => f (kp j i)) i) 6 = ((((((0 + 0) + (0 + oy (f 0))) + ((0 + oy (f 1)) + oy (f 5))) + (((0 + oy (f 2)) + oy (f 6)) + oy (f 9))) + ((((0 + oy (f 3)) + oy (f 7)) + oy (f 10)) + oy (f 12))) + (((((0 + oy (f 4)) + oy (f 8)) + oy (f 11)) + oy (f 13)) + oy (f 14))) := rfl
/-- the pairs, one way and the other -/
theorem ct_pairs (f : Nat → Bool) : fb_ct f 15 = fb_sm (fun i => fb_ct (fun j => f (kp j i)) i) 6 := by
  rw [ct_15, sm_15]
  generalize oy (f 0) = a0
  generalize oy (f 1) = a1
  generalize oy (f 2) = a2
  generalize oy (f 3) = a3
  generalize oy (f 4) = a4
  generalize oy (f 5) = a5
  generalize oy (f 6) = a6
  generalize oy (f 7) = a7
  generalize oy (f 8) = a8
  generalize oy (f 9) = a9
  generalize oy (f 10) = a10
  generalize oy (f 11) = a11
  generalize oy (f 12) = a12
  generalize oy (f 13) = a13
  generalize oy (f 14) = a14
  omega
/-- the disagreements are the pairs that only one has -/
theorem unl_pop {n a b : Nat} (n1 : 1 ≤ n) (n2 : n ≤ 6) (ha : a < kN n) (hb : b < kN n) : pop (km n a ^^^ km n b) 15 = unl n a b n := by
  have hbit : ∀ i j, j < i → i < 6 → (km n a ^^^ km n b).testBit (kp j i) = (decide (i < n) && (decide (ks n a i = ks n a j) != decide (ks n b i = ks n b j))) := fun i j hj hi => by
    rw [Nat.testBit_xor, km_bit n1 n2 ha hj hi, km_bit n1 n2 hb hj hi]
    have e1 : decide (ks n a j = ks n a i) = decide (ks n a i = ks n a j) := decide_eq_decide.mpr ⟨Eq.symm, Eq.symm⟩
    have e2 : decide (ks n b j = ks n b i) = decide (ks n b i = ks n b j) := decide_eq_decide.mpr ⟨Eq.symm, Eq.symm⟩
    rw [e1, e2]
    cases decide (i < n) <;> cases decide (ks n a i = ks n a j) <;> cases decide (ks n b i = ks n b j) <;> rfl
  unfold pop
  rw [ct_pairs]
  rw [sm_cut n2 (fun i h1 h2 => fb_ct_zero.mpr (fun j hj => by rw [hbit i j hj h2, decide_eq_false (by omega), Bool.false_and]))]
  unfold unl
  refine fb_sm_cong (fun i hi => ?_)
  unfold unN
  refine fb_ct_cong (fun j hj => ?_)
  rw [hbit i j hj (by omega), decide_eq_true hi, Bool.true_and]
theorem xor_15 {a b : Nat} (ha : a < 32768) (hb : b < 32768) : a ^^^ b < 32768 := Nat.xor_lt_two_pow (n := 15) ha hb
theorem m7_disagreements {h : zw_H} {A : zA} {r s : Int32} (W : CW h A) : zpI 2 mX7_disagreements [.ref 0, .int r, .int s] h (gd (wr2 A.1 r s) (nI (unl A.1.1 (rgt A.1 r) (rgt A.1 s) A.1.1))) := by
  have n1 := W.1.1.1
  have n2 := W.1.1.2.1
  refine zcI_of rfl pn_X7 (fun _ => Nat.le_of_ble_eq_true rfl) rfl (rX7_disagreements_0 (ca (c_X7_faultOf W) ⟨fun c => ?_, fun c => ?_⟩))
  · rw [fo_1] at c
    obtain ⟨d1, d2⟩ := wr2_0 c
    obtain ⟨a, a1, a2, a3, a4, a5⟩ := W.reg d1
    obtain ⟨b, b1, b2, b3, b4, b5⟩ := W.reg d2
    rw [gd_0 c]
    refine ⟨a, a2, a1, b, b2, b1, ?_⟩
    rw [a5, b5, zxor]
    refine ca (c_bc (xor_15 (km_lt n1 n2 a4) (km_lt n1 n2 b4))) ⟨?_, rfl⟩
    rw [unl_pop n1 n2 a4 b4]
  · rw [fo_1] at c ⊢
    exact ⟨(gd_f c).symm, rfl⟩
theorem cmn_pop {n a b p q : Nat} (n1 : 1 ≤ n) (n2 : n ≤ 6) (ha : a < kN n) (hb : b < kN n) (hp : p < 6) (hq : q < 6) : pop (kE n a p &&& kE n b q) 15 = cmn n a p b q n := by
  obtain ⟨a1, _, a3⟩ := kE_tab n1 n2 ha hp
  obtain ⟨b1, _, b3⟩ := kE_tab n1 n2 hb hq
  unfold pop cmn
  rw [ct_cut (i := n) (by omega) (fun e h1 h2 => ?_)]
  · refine fb_ct_cong (fun e he => ?_)
    rw [Nat.testBit_and, a3 e (by omega), b3 e (by omega), decide_eq_true he, Bool.true_and, Bool.true_and]
  · rw [Nat.testBit_and]
    by_cases h6 : e < 6
    · rw [a3 e h6, decide_eq_false (by omega), Bool.false_and, Bool.false_and]
    · rw [Nat.testBit_lt_two_pow (Nat.lt_of_lt_of_le a1 (by
        have := Nat.pow_le_pow_right (n := 2) (by decide) (show 6 ≤ e by omega)
        omega)), Bool.false_and]
theorem styI_max {c D : Nat → Nat} {set m0 : Nat} : ∀ q, styI c D set m0 q = max m0 (styI c D set 0 q)
  | 0 => by rw [styI, styI, Nat.max_eq_left (Nat.zero_le _)]
  | q + 1 => by
    have := styI_max (c := c) (D := D) (set := set) (m0 := m0) q
    rw [styI, styI]
    split
    · rw [this]
      omega
    · exact this
theorem c_X7_mostWithBlock {h : zw_H} {n a b p set : Nat} {D : Nat → Nat} (n1 : 1 ≤ n) (n2 : n ≤ 6) (ha : a < kN n) (hb : b < kN n) (hp : p < kB n a) (S1 : SP h 48 49 50 n a) (S2 : SP h 51 52 53 n b) (hs : set < 2 ^ kB n b) (hD : ∀ t, t < set → h.1 55 t = nI (D t)) (hD2 : ∀ t, D t ≤ 60) : zpI 1 mX7_mostWithBlock [.ref 0, .int (nI p), .int (nI set)] h (nI (styI (fun q => cmn n a p b q n) D set 0 (kB n b))) := by
  have hBa := kB_le n1 n2 ha
  have hBb := kB_le n1 n2 hb
  have hp2 : 2 ^ kB n b ≤ 2 ^ 6 := Nat.pow_le_pow_right (by decide) (by omega)
  refine zcI_of rfl pn_X7 (fun _ => Nat.le_of_ble_eq_true rfl) rfl (rX7_mostWithBlock_0 ?_)
  generalize hr : nI (styI (fun q => cmn n a p b q n) D set 0 (kB n b)) = res
  have hst : ∀ q, styI (fun q => cmn n a p b q n) D set 0 q ≤ 66 := fun q => styI_le (by omega) (fun t q => by
    have h1 := hD2 t
    have h2 : cmn n a p b q n ≤ 6 := fb_ct_6 n2
    omega) q
  refine lp_up (P := fun q => zwI 1 mX7_mostWithBlock (fun x h' => x = res ∧ h' = h) 5 [(0, .ref 0), (1, .int (nI p)), (2, .int (nI set)), (3, .int (nI (styI (fun q => cmn n a p b q n) D set 0 q))), (4, .int (nI q))] [] h) (N := kB n b) ?_ ?_ 0 (by omega)
  · exact rX7_mostWithBlock_5 ⟨fun _ => ⟨hr, rfl⟩, fun c => absurd (by rw [S2.2.1]; exact nI_le (Nat.le_refl _) (by omega)) c⟩
  · intro q hq ih
    rw [styI] at ih
    refine rX7_mostWithBlock_5 ⟨fun c => ?_, fun _ => ⟨fun c => ?_, fun c => ⟨p, rfl, by omega, q, rfl, by omega, ?_⟩⟩⟩
    · rw [S2.2.1] at c
      have := zle c
      omega
    · have c' := (zbit0 (by omega) (by omega)).mp c
      rw [if_neg (by rw [c']; decide)] at ih
      rw [nI_1]
      exact ih
    · have c' : set.testBit q = true := by
        cases hx : set.testBit q with
        | true => rfl
        | false => exact absurd ((zbit0 (by omega) (by omega)).mpr hx) c
      obtain ⟨s1, s2⟩ := set_del set (by omega) q (by omega) c'
      rw [S1.2.2.2 p hp, S2.2.2.2 q hq, zand]
      have h64 := (kE_tab n1 n2 ha (show p < 6 by omega)).1
      refine ca (c_bc (Nat.lt_of_le_of_lt Nat.and_le_left (show kE n a p < 32768 by omega))) ⟨set ^^^ 2 ^ q, ?_, by omega, ?_⟩
      · rw [zone (by omega), zdel (by omega), s1]
      · have h1 := hD2 (set ^^^ 2 ^ q)
        have h2 : cmn n a p b q n ≤ 6 := fb_ct_6 n2
        have h3 := hst q
        rw [hD _ s2, cmn_pop n1 n2 ha hb (by omega) (by omega), nI_add, zmax_n (by omega) (by omega), nI_1]
        rw [if_pos c'] at ih
        exact ih
theorem c_X7_mostThatStay {h : zw_H} {n a b : Nat} (n1 : 1 ≤ n) (n2 : n ≤ 6) (ha : a < kN n) (hb : b < kN n) (S1 : SP h 48 49 50 n a) (S2 : SP h 51 52 53 n b) : zcI 2 mX7_mostThatStay [.ref 0] h (fun x h' => x = nI (sty n a b (kB n a) (2 ^ kB n b - 1)) ∧ Fr (fun a _ => a = 55) h h') := by
  have hBa := kB_le n1 n2 ha
  have hBb := kB_le n1 n2 hb
  have hp2 : 2 ^ kB n b ≤ 2 ^ 6 := Nat.pow_le_pow_right (by decide) (by omega)
  have hp1 : 2 ^ 1 ≤ 2 ^ kB n b := Nat.pow_le_pow_right (by decide) (by omega)
  have Sf : ∀ {k : zw_H} {o la ma g : Nat}, Fr (fun a _ => a = 55) h k → o ≠ 55 → la ≠ 55 → ma ≠ 55 → SP h o la ma n g → SP k o la ma n g := fun f d1 d2 d3 S => ⟨by rw [f.1 _ _ d1]; exact S.1, by rw [f.1 _ _ d1]; exact S.2.1, fun e he => by rw [f.1 _ _ d2]; exact S.2.2.1 e he, fun c hc => by rw [f.1 _ _ d3]; exact S.2.2.2 c hc⟩
  refine zcI_of rfl pn_X7 (fun _ => Nat.le_of_ble_eq_true rfl) rfl (rX7_mostThatStay_0 ?_)
  rw [S2.2.1, zone (by omega)]
  generalize hQ : (fun (x : Int32) (h' : zw_H) => x = nI (sty n a b (kB n a) (2 ^ kB n b - 1)) ∧ Fr (fun a _ => a = 55) h h') = Q
  have hset : ∀ t, t < 2 ^ kB n b → t < 2 ^ kB n b := fun _ z => z
  generalize hS : 2 ^ kB n b = S at hp1 hp2 hQ hset
  have m1 : nI S - 1 = nI (S - 1) := by rw [show S = (S - 1) + 1 by omega, nI_pred]; rfl
  refine lp_up (P := fun i => ∀ k, Fr (fun a _ => a = 55) h k → (∀ t, t < i → k.1 55 t = nI 0) → zwI 2 mX7_mostThatStay Q 12 [(0, .ref 0), (1, .int (nI S)), (2, .int (nI i))] [] k) (N := S) ?_ ?_ 0 (by omega) h Fr.rf (fun _ h => absurd h (by omega))
  · intro k fr inv
    refine rX7_mostThatStay_12 ⟨fun _ => ?_, fun c => absurd (nI_le (Nat.le_refl _) (by omega)) c⟩
    refine lp_up (P := fun p => ∀ k, Fr (fun a _ => a = 55) h k → (∀ t, t < S → k.1 55 t = nI (sty n a b p t)) → zwI 2 mX7_mostThatStay Q 32 [(0, .ref 0), (1, .int (nI S)), (2, .int (nI p))] [] k) (N := kB n a) ?_ ?_ 0 (by omega) k fr inv
    · intro k fr inv
      have T1 := Sf fr (by decide) (by decide) (by decide) S1
      refine rX7_mostThatStay_32 ⟨fun _ => ⟨S - 1, m1, by omega, ?_⟩, fun c => absurd (by rw [T1.2.1]; exact nI_le (Nat.le_refl _) (by omega)) c⟩
      rw [← hQ]
      exact ⟨inv _ (by omega), fr⟩
    · intro p hp ih k fr inv
      have T1 := Sf fr (by decide) (by decide) (by decide) S1
      refine rX7_mostThatStay_32 ⟨fun c => ?_, fun _ => ?_⟩
      · rw [T1.2.1] at c
        have := zle c
        omega
      rw [m1]
      have down : ∀ m, m < S → ∀ k, Fr (fun a _ => a = 55) h k → (∀ t, t < S → k.1 55 t = nI (if m < t then sty n a b (p + 1) t else sty n a b p t)) → zwI 2 mX7_mostThatStay Q 47 [(0, .ref 0), (1, .int (nI S)), (2, .int (nI p)), (3, .int (nI m))] [] k := by
        intro m
        induction m with
        | zero =>
          intro _ k fr inv
          refine rX7_mostThatStay_47 ⟨fun _ => ?_, fun c => absurd (by decide) c⟩
          rw [nI_1]
          refine ih k fr (fun t ht => ?_)
          rw [inv t ht]
          by_cases hx : 0 < t
          · rw [if_pos hx]
          · rw [if_neg hx, show t = 0 by omega, sty_0, sty_0]
        | succ m ihm =>
          intro hm k fr inv
          have T1 := Sf fr (by decide) (by decide) (by decide) S1
          have T2 := Sf fr (by decide) (by decide) (by decide) S2
          have b1 := fun t => sty_le (a := a) (b := b) n2 p t
          refine rX7_mostThatStay_47 ⟨fun c => ?_, fun _ => ⟨m + 1, rfl, by omega, ca (c_X7_mostWithBlock (D := sty n a b p) n1 n2 ha hb hp T1 T2 (by rw [hS]; exact hm) (fun t ht => by rw [inv t (by omega), if_neg (by omega)]) (fun t => by have := b1 t; omega)) ⟨m + 1, rfl, by omega, fun k2 e2 => ?_⟩⟩⟩
          · have := zle (b := 0) c
            omega
          · have v : k.1 55 (m + 1) = nI (sty n a b p (m + 1)) := by rw [inv (m + 1) hm, if_neg (by omega)]
            have b2 := b1 (m + 1)
            have b3 : styI (fun q => cmn n a p b q n) (sty n a b p) (m + 1) 0 (kB n b) ≤ 66 := styI_le (by omega) (fun t q => by
              have h1 := b1 t
              have h2 : cmn n a p b q n ≤ 6 := fb_ct_6 n2
              omega) _
            rw [v, zmax_n (by omega) (by omega)] at e2
            have e : sty n a b (p + 1) (m + 1) = max (sty n a b p (m + 1)) (styI (fun q => cmn n a p b q n) (sty n a b p) (m + 1) 0 (kB n b)) := styI_max _
            rw [← e] at e2
            rw [pk_m1]
            refine ihm (by omega) k2 (fr.sI e2 rfl) (fun t ht => ?_)
            by_cases hx : t = m + 1
            · rw [hx, e2, zw_sI_s, if_pos (by omega)]
            · rw [e2, zw_sI_n (Or.inr hx), inv t ht]
              by_cases hy : m + 1 < t
              · rw [if_pos hy, if_pos (by omega)]
              · rw [if_neg hy, if_neg (by omega)]
      refine down (S - 1) (by omega) k fr (fun t ht => ?_)
      rw [inv t ht, if_neg (by omega)]
  · intro i hi ih k fr inv
    refine rX7_mostThatStay_12 ⟨fun c => ?_, fun _ => ⟨i, rfl, by omega, fun k2 e2 => ?_⟩⟩
    · have := zle c
      omega
    · rw [nI_1]
      refine ih k2 (fr.sI e2 rfl) (fun t ht => ?_)
      by_cases hx : t = i
      · rw [hx, e2, zw_sI_s]
        rfl
      · rw [e2, zw_sI_n (Or.inr hx)]
        exact inv t (by omega)
theorem m7_transfers {h : zw_H} {A : zA} {r s : Int32} (W : CW h A) : zcI 4 mX7_transfers [.ref 0, .int r, .int s] h (opC h (gd (wr2 A.1 r s) (nI A.1.1 - nI (sty A.1.1 (rgt A.1 r) (rgt A.1 s) (kB A.1.1 (rgt A.1 r)) (2 ^ kB A.1.1 (rgt A.1 s) - 1))), A)) := by
  have n1 := W.1.1.1
  have n2 := W.1.1.2.1
  refine zcI_of rfl pn_X7 (fun _ => Nat.le_of_ble_eq_true rfl) rfl (rX7_transfers_0 (ca (c_X7_faultOf W) ⟨fun c => ?_, fun c => ?_⟩))
  · rw [fo_1] at c
    obtain ⟨d1, d2⟩ := wr2_0 c
    obtain ⟨a, a1, a2, a3, a4, a5⟩ := W.reg d1
    obtain ⟨b, b1, b2, b3, b4, b5⟩ := W.reg d2
    rw [gd_0 c]
    refine caV (c_X7_spellRegister W d1) (fun k1 r1 => ⟨b, b2, b1, ?_⟩)
    have W1 := W.fr r1.2
    rw [r1.2.1 2 b (by unfold pQ; omega), b5, W1.2.2.1.1]
    refine caV (c_X3_spell zs_51 zs_52 zs_53 (by omega) (by omega) (by omega) n1 n2 b4) (fun k2 r2 => ?_)
    have F2 : Fr pQ h k2 := r1.2.tr (r2.2.mo (fun a b z => by unfold pSh at z; unfold pQ; omega))
    have W2 := W.fr F2
    have S1 : SP k2 48 49 50 A.1.1 (rgt A.1 r) := by
      obtain ⟨s1, s2, s3, s4⟩ := r1.1
      exact ⟨by rw [r2.2.1 _ _ (by unfold pSh; omega)]; exact s1, by rw [r2.2.1 _ _ (by unfold pSh; omega)]; exact s2, fun e he => by rw [r2.2.1 _ _ (by unfold pSh; omega)]; exact s3 e he, fun e he => by rw [r2.2.1 _ _ (by unfold pSh; omega)]; exact s4 e he⟩
    refine cr (c_X7_mostThatStay n1 n2 a4 b4 S1 r2.1) (fun x k3 r3 => ?_)
    rw [r3.1, W2.2.2.1.1]
    exact W.ans (F2.tr (r3.2.mo (fun a b z => by unfold pQ; omega))) _
  · rw [fo_1] at c ⊢
    rw [gd_f c]
    exact W.same _
