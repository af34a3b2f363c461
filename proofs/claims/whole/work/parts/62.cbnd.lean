theorem ixI_9 {s : zS} {g : Nat} (n1 : 1 ≤ s.1) (n2 : s.1 ≤ 6) (hg : g < kN s.1) : ixI s g = -9 ↔ ¬ adm s g = true := by
  have hN := (kN_le n1 n2).1
  have hi := ix_le s g
  unfold ixI
  by_cases ha : adm s g = true
  · rw [if_pos ha]
    exact ⟨fun z => absurd z (nI_9 (by omega)), fun z => absurd ha z⟩
  · rw [if_neg ha]
    exact ⟨fun _ => ha, fun _ => rfl⟩
def foA (s : zS) (r q v : Int32) : Int32 := if v = 0 then -1 else wr3 s r q
theorem c_X7_faultOfAdmitted {h : zw_H} {A : zA} {r q v : Int32} (W : CW h A) : zpI 2 mX7_faultOfAdmitted [.ref 0, .int r, .int q, .int v] h (foA A.1 r q v) := by
  have n1 := W.1.1.1
  have n2 := W.1.1.2.1
  unfold foA
  refine zcI_of rfl pn_X7 (fun _ => Nat.le_of_ble_eq_true rfl) rfl (rX7_faultOfAdmitted_0 (ca (c_X7_faultOf W) ⟨fun c => ?_, fun c => ⟨?_, rfl⟩⟩))
  · obtain ⟨hv, c2⟩ := fo_ok c
    obtain ⟨d1, d2⟩ := wr2_0 c2
    obtain ⟨a, a1, a2, a3, a4, a5⟩ := W.reg d1
    obtain ⟨b, b1, b2, b3, b4, b5⟩ := W.reg d2
    rw [if_neg hv, wr3, if_pos c2]
    refine ⟨a, a2, a1, ?_⟩
    rw [a5]
    refine ca (c_X2_find n1 n2 W.2.2.2.2.2.2 a4) ⟨fun c3 => ⟨fun _ => ⟨?_, rfl⟩, fun z => absurd rfl z⟩, fun c3 => ⟨b, b2, b1, ?_⟩⟩
    · rw [if_neg (fun z => (ixI_9 n1 n2 a4).mp c3 z.1)]
    · rw [b5]
      have ya : adm A.1 (rgt A.1 r) = true := Classical.byContradiction (fun z => c3 ((ixI_9 n1 n2 a4).mpr z))
      refine ca (c_X2_find n1 n2 W.2.2.2.2.2.2 b4) ⟨fun c4 => ⟨fun _ => ⟨?_, rfl⟩, fun z => absurd rfl z⟩, fun c4 => ⟨fun z => absurd z (by decide), fun _ => ⟨?_, rfl⟩⟩⟩
      · rw [if_neg (fun z => (ixI_9 n1 n2 b4).mp c4 z.2)]
      · have yb : adm A.1 (rgt A.1 q) = true := Classical.byContradiction (fun z => c4 ((ixI_9 n1 n2 b4).mpr z))
        rw [if_pos ⟨ya, yb⟩]
  · unfold fo at c ⊢
    by_cases hv : v = 0
    · rw [if_pos hv, if_pos hv]
    · rw [if_neg hv] at c ⊢
      rw [if_neg hv, wr3_f c]
theorem foA_1 (s : zS) (r q : Int32) : foA s r q 1 = wr3 s r q := if_neg (by decide)
theorem wr3_self (s : zS) (r : Int32) : wr3 s r r = wrA s r := by
  unfold wr3 wrA
  rw [wr2_self]
  by_cases h : wr1 s r = 0
  · rw [if_pos h, if_pos h]
    by_cases h2 : adm s (rgt s r) = true
    · rw [if_pos h2, if_pos ⟨h2, h2⟩]
    · rw [if_neg h2, if_neg (fun z => h2 z.1)]
  · rw [if_neg h, if_neg h]
/-- the nearest ones below (above) an admitted partition are those that it covers (that cover it) -/
theorem nst_cov {s : zS} {g z : Nat} {down : Bool} (n1 : 1 ≤ s.1) (n2 : s.1 ≤ 6) (hg : g < kN s.1) (ga : adm s g = true) (hz : z < kN s.1) (za : adm s z = true) : nst s (km s.1 g) down (nI (km s.1 g)) z ↔ (if down = true then cov s z g else cov s g z) := by
  have hne : ∀ u, u < kN s.1 → (nI (km s.1 u) ≠ nI (km s.1 g) ↔ u ≠ g) := fun u hu => by
    have m1 := km_lt n1 n2 hu
    have m2 := km_lt n1 n2 hg
    constructor
    · intro h e
      exact h (by rw [e])
    · intro h e
      exact h (km_inj n1 n2 hu hg (zeq e))
  by_cases hd : down = true
  · subst hd
    rw [if_pos rfl]
    constructor
    · rintro ⟨⟨c1, c2⟩, c3⟩
      rw [if_pos rfl] at c1
      have c2 := (hne z hz).mp c2
      refine ⟨za, ga, ⟨c1, c2⟩, fun u hu ⟨u1, u2, u3⟩ => ?_⟩
      obtain ⟨i, i1, i2⟩ := en_of (down := true) hu u1
      have := c3 i i1 (by
        rw [i2]
        exact ⟨by rw [if_pos rfl]; exact u3.1, (hne u hu).mpr u3.2⟩) (by
        rw [i2]
        unfold tw
        rw [if_pos rfl]
        exact u2.1)
      rw [i2] at this
      exact u2.2 this.symm
    · rintro ⟨_, _, ⟨c1, c2⟩, c3⟩
      refine ⟨⟨by rw [if_pos rfl]; exact c1, (hne z hz).mpr c2⟩, fun i hi hc ht => ?_⟩
      obtain ⟨e1, e2⟩ := en_ok (down := true) hi
      have hc1 := hc.1
      rw [if_pos rfl] at hc1
      unfold tw at ht
      rw [if_pos rfl] at ht
      apply Classical.byContradiction
      intro hx
      exact c3 _ e1 ⟨e2, ⟨ht, fun z => hx z.symm⟩, ⟨hc1, (hne _ e1).mp hc.2⟩⟩
  · have hd : down = false := by cases down <;> simp_all
    subst hd
    rw [if_neg (by decide)]
    constructor
    · rintro ⟨⟨c1, c2⟩, c3⟩
      rw [if_neg (by decide)] at c1
      have c2 := (hne z hz).mp c2
      refine ⟨ga, za, ⟨c1, fun e => c2 e.symm⟩, fun u hu ⟨u1, u2, u3⟩ => ?_⟩
      obtain ⟨i, i1, i2⟩ := en_of (down := false) hu u1
      have := c3 i i1 (by
        rw [i2]
        exact ⟨by rw [if_neg (by decide)]; exact u2.1, (hne u hu).mpr (fun e => u2.2 e.symm)⟩) (by
        rw [i2]
        unfold tw
        rw [if_neg (by decide)]
        exact u3.1)
      rw [i2] at this
      exact u3.2 this
    · rintro ⟨_, _, ⟨c1, c2⟩, c3⟩
      refine ⟨⟨by rw [if_neg (by decide)]; exact c1, (hne z hz).mpr (fun e => c2 e.symm)⟩, fun i hi hc ht => ?_⟩
      obtain ⟨e1, e2⟩ := en_ok (down := false) hi
      have hc1 := hc.1
      rw [if_neg (by decide)] at hc1
      unfold tw at ht
      rw [if_neg (by decide)] at ht
      apply Classical.byContradiction
      intro hx
      exact c3 _ e1 ⟨e2, ⟨hc1, fun z => (hne _ e1).mp hc.2 z.symm⟩, ⟨ht, hx⟩⟩
theorem pN_Q {a b : Nat} (z : pN a b) : pQ a b := by
  unfold pN at z
  unfold pQ
  omega
theorem m7_covers {h : zw_H} {A : zA} {r v : Int32} {down : Bool} (W : CW h A) (hv : v = 0 ↔ down = false) : zcI 3 mX7_covers [.ref 0, .int r, .int v] h (opC h (gd (wrA A.1 r) (nI (cvN A.1 (rgt A.1 r) down (kN A.1.1))), A)) := by
  have n1 := W.1.1.1
  have n2 := W.1.1.2.1
  refine zcI_of rfl pn_X7 (fun _ => Nat.le_of_ble_eq_true rfl) rfl (rX7_covers_0 (ca (c_X7_faultOfAdmitted W) ⟨fun c => ?_, fun c => ?_⟩))
  · rw [foA_1] at c
    have c' := c
    rw [wr3_self] at c'
    obtain ⟨c2, ga, _⟩ := wr3_0 c
    obtain ⟨d1, _⟩ := wr2_0 c2
    obtain ⟨a, a1, a2, a3, a4, a5⟩ := W.reg d1
    rw [gd_0 c']
    refine ⟨a, a2, a1, a, a2, a1, ?_⟩
    rw [a5]
    refine caV (c_X2_findNearest n1 n2 W.2.2.2.2.2.2 (km_lt n1 n2 a4) hv) (fun k rr => ?_)
    rw [rr.1]
    have e : fb_ct (nsB A.1 (km A.1.1 (rgt A.1 r)) down (nI (km A.1.1 (rgt A.1 r)))) (cnt A.1) = cvN A.1 (rgt A.1 r) down (kN A.1.1) := by
      have h2 : fb_ct (nsB A.1 (km A.1.1 (rgt A.1 r)) down (nI (km A.1.1 (rgt A.1 r)))) (cnt A.1) = _ := ct_en (s := A.1) (down := down) (fun z => dB (nst A.1 (km A.1.1 (rgt A.1 r)) down (nI (km A.1.1 (rgt A.1 r))) z))
      rw [h2]
      unfold cvN
      refine fb_ct_cong (fun z hz => ?_)
      by_cases za : adm A.1 z = true
      · rw [za, Bool.true_and]
        unfold dB
        congr 1
        exact propext (nst_cov n1 n2 a4 ga hz za)
      · rw [Bool.eq_false_iff.mpr za, Bool.false_and]
        refine (dB_f.mpr (fun q => za ?_)).symm
        split at q
        · exact q.1
        · exact q.2.1
    rw [e]
    exact W.ans (rr.2.2.mo (fun _ _ z => pN_Q z)) _
  · rw [foA_1, wr3_self] at c ⊢
    rw [gd_f c]
    exact W.same _
theorem and_and_sub {x a b : Nat} : x &&& (a &&& b) = x ↔ x &&& a = x ∧ x &&& b = x := by
  constructor
  · intro h
    constructor
    · apply Nat.eq_of_testBit_eq
      intro i
      have h2 := congrArg (fun z => z.testBit i) h
      simp only [Nat.testBit_and] at h2 ⊢
      cases hx : x.testBit i <;> simp_all
    · apply Nat.eq_of_testBit_eq
      intro i
      have h2 := congrArg (fun z => z.testBit i) h
      simp only [Nat.testBit_and] at h2 ⊢
      cases hx : x.testBit i <;> simp_all
  · rintro ⟨h1, h2⟩
    rw [← Nat.and_assoc, h1, h2]
def lim (n a b : Nat) (down : Bool) : Nat := if down = true then km n a &&& km n b else km n a ||| km n b
theorem nst_nbd {s : zS} {a b z : Nat} {down : Bool} (n1 : 1 ≤ s.1) (n2 : s.1 ≤ 6) (hz : z < kN s.1) (za : adm s z = true) : nst s (lim s.1 a b down) down (-1) z ↔ nbd s a b down z := by
  have hne : ∀ u, u < kN s.1 → nI (km s.1 u) ≠ -1 := fun u hu e => by
    have m1 := km_lt n1 n2 hu
    have h3 := congrArg Int32.toInt e
    rw [nI_toInt (by omega)] at h3
    have : (-1 : Int32).toInt = -1 := by decide
    omega
  have hb : ∀ u, u < kN s.1 → adm s u = true → (cnd s.1 (lim s.1 a b down) down (-1) u ↔ bnd s a b down u) := fun u hu ua => by
    unfold cnd lim bnd
    by_cases hd : down = true
    · rw [if_pos hd, if_pos hd, if_pos hd, and_and_sub]
      exact ⟨fun q => ⟨ua, q.1⟩, fun q => ⟨q.2, hne u hu⟩⟩
    · rw [if_neg hd, if_neg hd, if_neg hd, and_or_sub]
      exact ⟨fun q => ⟨ua, q.1⟩, fun q => ⟨q.2, hne u hu⟩⟩
  constructor
  · rintro ⟨c1, c2⟩
    refine ⟨(hb z hz za).mp c1, fun w hw ⟨w1, w2⟩ => ?_⟩
    obtain ⟨i, i1, i2⟩ := en_of (down := down) hw w1.1
    have := c2 i i1 (by rw [i2]; exact (hb w hw w1.1).mpr w1) (by
      rw [i2]
      unfold tw
      split
      · rename_i hd
        rw [if_pos hd] at w2
        exact w2.1
      · rename_i hd
        rw [if_neg hd] at w2
        exact w2.1)
    rw [i2] at this
    split at w2
    · exact w2.2 this.symm
    · exact w2.2 this
  · rintro ⟨c1, c2⟩
    refine ⟨(hb z hz za).mpr c1, fun i hi hc ht => ?_⟩
    obtain ⟨e1, e2⟩ := en_ok (down := down) hi
    apply Classical.byContradiction
    intro hx
    refine c2 _ e1 ⟨(hb _ e1 e2).mp hc, ?_⟩
    unfold tw at ht
    split
    · rename_i hd
      rw [if_pos hd] at ht
      exact ⟨ht, fun q => hx q.symm⟩
    · rename_i hd
      rw [if_neg hd] at ht
      exact ⟨ht, hx⟩
theorem lim_lt {n a b : Nat} {down : Bool} (n1 : 1 ≤ n) (n2 : n ≤ 6) (ha : a < kN n) (hb : b < kN n) : lim n a b down < 32768 := by
  unfold lim
  split
  · exact Nat.lt_of_le_of_lt Nat.and_le_left (km_lt n1 n2 ha)
  · exact Nat.or_lt_two_pow (n := 15) (km_lt n1 n2 ha) (km_lt n1 n2 hb)
theorem nbN_ct {s : zS} {a b : Nat} {down : Bool} (n1 : 1 ≤ s.1) (n2 : s.1 ≤ 6) : fb_ct (nsB s (lim s.1 a b down) down (-1)) (cnt s) = nbN s a b down (kN s.1) := by
  have h2 : fb_ct (nsB s (lim s.1 a b down) down (-1)) (cnt s) = _ := ct_en (s := s) (down := down) (fun z => dB (nst s (lim s.1 a b down) down (-1) z))
  rw [h2]
  unfold nbN
  refine fb_ct_cong (fun z hz => ?_)
  by_cases za : adm s z = true
  · rw [za, Bool.true_and]
    unfold dB
    congr 1
    exact propext (nst_nbd n1 n2 hz za)
  · rw [Bool.eq_false_iff.mpr za, Bool.false_and]
    exact (dB_f.mpr (fun q => za q.1.1)).symm
theorem c_X7_findNearestBounds {h : zw_H} {A : zA} {r s v : Int32} {down : Bool} (W : CW h A) (d1 : wr1 A.1 r = 0) (d2 : wr1 A.1 s = 0) (hv : v = 0 ↔ down = false) : zcV 3 mX7_findNearestBounds [.ref 0, .int r, .int s, .int v] h (fun h' => h'.1 37 6 = nI (nbN A.1 (rgt A.1 r) (rgt A.1 s) down (kN A.1.1)) ∧ (∀ i, i < cnt A.1 → nsB A.1 (lim A.1.1 (rgt A.1 r) (rgt A.1 s) down) down (-1) i = true → h'.1 42 (fb_ct (nsB A.1 (lim A.1.1 (rgt A.1 r) (rgt A.1 s) down) down (-1)) i) = nI (km A.1.1 (en A.1 down i))) ∧ Fr pN h h') := by
  have n1 := W.1.1.1
  have n2 := W.1.1.2.1
  obtain ⟨a, a1, a2, a3, a4, a5⟩ := W.reg d1
  obtain ⟨b, b1, b2, b3, b4, b5⟩ := W.reg d2
  rw [← nbN_ct n1 n2]
  refine zcV_of rfl pn_X7 (fun _ => Nat.le_of_ble_eq_true rfl) rfl (rX7_findNearestBounds_0 ⟨a, a2, a1, b, b2, b1, ?_⟩)
  rw [a5, b5, zand, zor]
  have hl := lim_lt (down := down) n1 n2 a4 b4
  have ct := c_X2_findNearest (v := v) (v3 := -1) (down := down) n1 n2 W.2.2.2.2.2.2 hl hv
  refine ⟨fun c => ?_, fun c => ?_⟩
  · have hd := hv.mp c
    have e : lim A.1.1 (rgt A.1 r) (rgt A.1 s) down = km A.1.1 (rgt A.1 r) ||| km A.1.1 (rgt A.1 s) := if_neg (by rw [hd]; decide)
    rw [← e]
    exact caV ct (fun k q => q)
  · have hd : down = true := by
      cases down with
      | true => rfl
      | false => exact absurd (hv.mpr rfl) c
    have e : lim A.1.1 (rgt A.1 r) (rgt A.1 s) down = km A.1.1 (rgt A.1 r) &&& km A.1.1 (rgt A.1 s) := if_pos hd
    rw [← e]
    exact caV ct (fun k q => q)
theorem m7_bounds {h : zw_H} {A : zA} {r s v : Int32} {down : Bool} (W : CW h A) (hv : v = 0 ↔ down = false) : zcI 4 mX7_bounds [.ref 0, .int r, .int s, .int v] h (opC h (gd (wr2 A.1 r s) (nI (nbN A.1 (rgt A.1 r) (rgt A.1 s) down (kN A.1.1))), A)) := by
  refine zcI_of rfl pn_X7 (fun _ => Nat.le_of_ble_eq_true rfl) rfl (rX7_bounds_0 (ca (c_X7_faultOf W) ⟨fun c => ?_, fun c => ?_⟩))
  · rw [fo_1] at c
    obtain ⟨d1, d2⟩ := wr2_0 c
    rw [gd_0 c]
    refine caV (c_X7_findNearestBounds W d1 d2 hv) (fun k q => ?_)
    rw [q.1]
    exact W.ans (q.2.2.mo (fun _ _ z => pN_Q z)) _
  · rw [fo_1] at c ⊢
    rw [gd_f c]
    exact W.same _
theorem ct_one {P : Nat → Bool} {N x y : Nat} (h : fb_ct P N = 1) (hx : x < N) (px : P x = true) (hy : y < N) (py : P y = true) : x = y := by
  have key : ∀ z, z < N → P z = true → fb_ct P z = 0 := fun z hz pz => by
    have := fb_ct_mono P (show z + 1 ≤ N by omega)
    rw [fb_ct_succ, if_pos pz] at this
    omega
  exact fb_ct_kth_one px py ((key x hx px).trans (key y hy py).symm)
theorem oB_f {A : zA} {r s t : Int32} {down : Bool} (h : ¬ fo A.1 r s (bI (iR t 8)) = 0) : oB A r s down t = (fo A.1 r s (bI (iR t 8)), A) := by
  unfold oB
  by_cases ht : iR t 8
  · rw [bI_t ht, fo_1] at h ⊢
    obtain ⟨k, hk, rfl⟩ := ht
    rw [ri_nI hk (by omega)]
    exact if_neg h
  · rw [bI_f ht, fo_0, (ri_none (by omega)).mpr ht]
theorem oB_no {A : zA} {r s : Int32} {down : Bool} {t : Nat} (ht : t < 8) (c : wr2 A.1 r s = 0) (e : nbN A.1 (rgt A.1 r) (rgt A.1 s) down (kN A.1.1) ≠ 1) : oB A r s down (nI t) = (-3, A) := by
  unfold oB
  rw [ri_nI ht (by omega)]
  dsimp only
  rw [if_pos c]
  split
  · rename_i e1 _
    exact absurd e1 e
  · rfl
theorem oB_yes {A : zA} {r s : Int32} {down : Bool} {t z : Nat} (ht : t < 8) (c : wr2 A.1 r s = 0) (e : nbN A.1 (rgt A.1 r) (rgt A.1 s) down (kN A.1.1) = 1) (ez : nbL A.1 (rgt A.1 r) (rgt A.1 s) down (kN A.1.1) = some z) : oB A r s down (nI t) = (nI (ix A.1 z), (oT A 0 (nI t) z).2) := by
  unfold oB
  rw [ri_nI ht (by omega)]
  dsimp only
  rw [if_pos c, e, ez]
  rfl
theorem m7_bound {h : zw_H} {A : zA} {r s v t : Int32} {down : Bool} (W : CW h A) (hv : v = 0 ↔ down = false) : zcI 4 mX7_bound [.ref 0, .int r, .int s, .int v, .int t] h (opC h (oB A r s down t)) := by
  have n1 := W.1.1.1
  have n2 := W.1.1.2.1
  have hN := (kN_le n1 n2).1
  refine zcI_of rfl pn_X7 (fun _ => Nat.le_of_ble_eq_true rfl) rfl (rX7_bound_0 (ca (c_X7_isRegister h t) (ca (c_X7_faultOf W) ⟨fun c => ?_, fun c => ?_⟩)))
  · obtain ⟨c1, c2⟩ := fo_ok c
    obtain ⟨t', t1, rfl⟩ := bI_yes c1
    obtain ⟨d1, d2⟩ := wr2_0 c2
    refine caV (c_X7_findNearestBounds W d1 d2 hv) (fun k q => ?_)
    obtain ⟨q1, q2, q3⟩ := q
    have W1 := W.fr (q3.mo (fun _ _ z => pN_Q z))
    have F1 : Fr pC h k := q3.mo (fun _ _ z => pQ_C (pN_Q z))
    have hle : nbN A.1 (rgt A.1 r) (rgt A.1 s) down (kN A.1.1) ≤ kN A.1.1 := fb_ct_le _ _
    rw [q1]
    refine ⟨fun c3 => ?_, fun c3 => ?_⟩
    · have e1 := zeq (b := 1) c3
      obtain ⟨z, z1, z2, z3⟩ := nbN_1 e1
      have e2 := nbN_ct (s := A.1) (a := rgt A.1 r) (b := rgt A.1 s) (down := down) n1 n2
      rw [e1] at e2
      obtain ⟨i, i1, i2, i3⟩ := fb_ct_kth (p := nsB A.1 (lim A.1.1 (rgt A.1 r) (rgt A.1 s) down) down (-1)) (k := 0) (n := cnt A.1) (by omega)
      obtain ⟨g1, g2⟩ := en_ok (s := A.1) (down := down) i1
      have hnb := (nst_nbd n1 n2 g1 g2).mp (dB_t.mp i2)
      have ez : en A.1 down i = z := ct_one (P := fun z => dB (nbd A.1 (rgt A.1 r) (rgt A.1 s) down z)) e1 g1 (dB_t.mpr hnb) z2 (dB_t.mpr z3)
      have v42 := q2 i i1 i2
      rw [i3, ez] at v42
      rw [oB_yes t1 c2 e1 z1, v42]
      have ya : adm A.1 z = true := z3.1.1
      have ei : ixI A.1 z = nI (ix A.1 z) := if_pos ya
      obtain ⟨x1, x2⟩ := nth_ix z2 ya
      have st := c_stepTo_some (t := t') (k := ix A.1 z) W1 t1 x1
      rw [x2] at st
      have fd := c_X2_find n1 n2 W1.2.2.2.2.2.2 z2
      rw [ei] at fd
      refine ca fd (cr st (fun y k2 r2 => ⟨r2.1, ?_, F1.tr r2.2.2⟩))
      show CW k2 (oT A 0 (nI t') z).2
      rw [oT_0 t1]
      exact r2.2.1
    · have e1 : nbN A.1 (rgt A.1 r) (rgt A.1 s) down (kN A.1.1) ≠ 1 := fun z => c3 (by rw [z]; rfl)
      rw [oB_no t1 c2 e1]
      exact ⟨rfl, W1, F1⟩
  · rw [oB_f c]
    exact W.same _
