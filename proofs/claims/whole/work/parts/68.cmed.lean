theorem c_X7_disagreementsWith {h : zw_H} {A : zA} {g set : Nat} (W : CW h A) (hg : g < kN A.1.1) (hs : set < 256) (full : ∀ r, r < 8 → set.testBit r = true → (A.1.2.2.2.2.2.2 r).isSome = true) : zpI 1 mX7_disagreementsWith [.ref 0, .int (nI set), .int (nI (km A.1.1 g))] h (nI (uAll A.1 g set 8)) := by
  have n1 := W.1.1.1
  have n2 := W.1.1.2.1
  refine zcI_of rfl pn_X7 (fun _ => Nat.le_of_ble_eq_true rfl) rfl (rX7_disagreementsWith_0 ?_)
  generalize hr : nI (uAll A.1 g set 8) = res
  refine lp_up (P := fun r => zwI 1 mX7_disagreementsWith (fun x h' => x = res ∧ h' = h) 5 [(0, .ref 0), (1, .int (nI set)), (2, .int (nI (km A.1.1 g))), (3, .int (nI (uAll A.1 g set r))), (4, .int (nI r))] [] h) (N := 8) ?_ ?_ 0 (by omega)
  · exact rX7_disagreementsWith_5 ⟨fun _ => ⟨hr, rfl⟩, fun c => absurd (by decide) c⟩
  · intro r hr8 ih
    rw [uAll, fb_sm_succ] at ih
    refine rX7_disagreementsWith_5 ⟨fun c => ?_, fun _ => ⟨fun c => ?_, fun c => ⟨r, rfl, hr8, ?_⟩⟩⟩
    · have := zle (a := 8) c
      omega
    · have c' := (zbit0 (by omega) (by omega)).mp c
      rw [uAT, if_neg (by rw [c']; decide), Nat.add_zero] at ih
      rw [nI_1]
      exact ih
    · have c' : set.testBit r = true := by
        cases hx : set.testBit r with
        | true => rfl
        | false => exact absurd ((zbit0 (by omega) (by omega)).mpr hx) c
      have hf := full r hr8 c'
      rw [W.2.2.1.2.2.2.2.2.2 r hr8]
      cases hx : A.1.2.2.2.2.2.2 r with
      | none => rw [hx] at hf; cases hf
      | some b =>
        have hb := W.1.1.2.2.2.2.2.2.2 r b hr8 hx
        show ∃ q, zcI 0 mJ6_bitCount_0f7a4 [.int (nI (km A.1.1 b) ^^^ nI (km A.1.1 g))] h q ∧ _
        rw [zxor]
        refine ca (c_bc (xor_15 (km_lt n1 n2 hb) (km_lt n1 n2 hg))) ?_
        rw [uAT, if_pos c', hx] at ih
        rw [Nat.xor_comm, unl_pop n1 n2 hg hb, nI_add, nI_1]
        exact ih
/-- the best of the first places of the roster -/
def mbk (s : zS) (set : Nat) : Nat → Option Nat
  | 0 => none
  | k + 1 => match mbk s set k with
    | none => some k
    | some c => if uAll s (nth s k) set 8 < uAll s (nth s c) set 8 then some k else some c
theorem mbk_lt {s : zS} {set : Nat} : ∀ {k c : Nat}, mbk s set k = some c → c < k
  | 0, _, h => by cases h
  | k + 1, c, h => by
    rw [mbk] at h
    cases hx : mbk s set k with
    | none =>
      rw [hx] at h
      cases h
      exact Nat.lt_succ_self _
    | some d =>
      have := mbk_lt hx
      rw [hx] at h
      dsimp only at h
      split at h
      · cases h
        exact Nat.lt_succ_self _
      · cases h
        omega
theorem mdB_mbk {s : zS} {set : Nat} : ∀ g, g ≤ kN s.1 → mdB s set g = (mbk s set (ix s g)).map (nth s)
  | 0, _ => rfl
  | g + 1, hg => by
    have ih := mdB_mbk (s := s) (set := set) g (by omega)
    rw [mdB, ix_succ]
    by_cases ha : adm s g = true
    · rw [if_pos ha, if_pos ha, mbk, ih]
      have e := (nth_ix (show g < kN s.1 by omega) ha).2
      cases hx : mbk s set (ix s g) with
      | none =>
        show some g = some (nth s (ix s g))
        rw [e]
      | some c =>
        dsimp only [Option.map]
        rw [e]
        split
        · show some g = some (nth s (ix s g))
          rw [e]
        · rfl
    · rw [if_neg ha, if_neg ha, Nat.add_zero]
      exact ih
theorem m7_median {h : zw_H} {A : zA} {v t : Int32} (W : CW h A) : zcI 3 mX7_median [.ref 0, .int v, .int t] h (opC h (oM A v t)) := by
  classical
  have n1 := W.1.1.1
  have n2 := W.1.1.2.1
  have hN := (kN_le n1 n2).1
  have hc := cnt_le A.1
  have bad : (¬ ∃ set, ri 256 v = some set ∧ set ≠ 0) → oM A v t = (-1, A) := fun no => by
    unfold oM
    cases hx : ri 256 v with
    | none => cases ri 8 t <;> rfl
    | some set =>
      have : set = 0 := Classical.byContradiction (fun z => no ⟨set, hx, z⟩)
      cases ri 8 t with
      | none => rfl
      | some _ => exact if_pos this
  refine zcI_of rfl pn_X7 (fun _ => Nat.le_of_ble_eq_true rfl) rfl (rX7_median_0 ⟨fun c => ?_, fun c => ⟨fun c2 => ?_, fun c2 => ca (c_X7_isRegister h t) ⟨fun c3 => ?_, fun c3 => ?_⟩⟩⟩)
  · rw [bad (fun ⟨set, e, hne⟩ => by
      obtain ⟨s1, rfl⟩ := ri_some e
      have := zlt (b := 1) c
      omega)]
    exact W.same _
  · rw [bad (fun ⟨set, e, hne⟩ => by
      obtain ⟨s1, rfl⟩ := ri_some e
      have := zle (a := 256) c2
      omega)]
    exact W.same _
  · have hR : iR v 256 := iR_of (fun z => c (by
      rw [Int32.lt_iff_toInt_lt] at z ⊢
      have e1 : (1 : Int32).toInt = 1 := by decide
      have e0 : (0 : Int32).toInt = 0 := by decide
      omega)) c2 (by omega)
    obtain ⟨set, s1, rfl⟩ := hR
    have hne : set ≠ 0 := fun z => c (by rw [z]; decide)
    obtain ⟨t', t1, rfl⟩ := bI_yes c3
    unfold oM
    rw [ri_nI s1 (by omega), ri_nI t1 (by omega)]
    dsimp only
    rw [if_neg hne, mdB_mbk (kN A.1.1) (Nat.le_refl _)]
    have key : ∀ r, r ≤ 8 → (∀ r', r' < r → set.testBit r' = true → (A.1.2.2.2.2.2.2 r').isSome = true) → zwI 3 mX7_median (opC h (if ∃ r, r < 8 ∧ set.testBit r = true ∧ A.1.2.2.2.2.2.2 r = none then (-2, A) else match (mbk A.1 set (ix A.1 (kN A.1.1))).map (nth A.1) with
    | none => (-3, A)
    | some g => (nI (uAll A.1 g set 8), (oT A 0 (nI t') g).2))) 23 [(0, .ref 0), (1, .int (nI set)), (2, .int (nI t')), (3, .int (nI r))] [] h := by
      refine lp_up ?_ ?_
      · intro full
        have no : ¬ ∃ r, r < 8 ∧ set.testBit r = true ∧ A.1.2.2.2.2.2.2 r = none := by
          rintro ⟨r, r1, r2, r3⟩
          have := full r r1 r2
          rw [r3] at this
          cases this
        rw [if_neg no]
        have ec : ix A.1 (kN A.1.1) = cnt A.1 := rfl
        rw [ec]
        generalize hQ : opC h (match (mbk A.1 set (cnt A.1)).map (nth A.1) with
          | none => (-3, A)
          | some g => (nI (uAll A.1 g set 8), (oT A 0 (nI t') g).2)) = Q
        refine rX7_median_23 ⟨fun _ => ?_, fun c => absurd (by decide) c⟩
        rw [W.2.2.2.2.2.2.1]
        refine ⟨fun c4 => ?_, fun c4 => ?_⟩
        · have hp : 0 < cnt A.1 := Nat.pos_of_ne_zero (fun z => c4 (by rw [z]; rfl))
          rw [(W.2.2.2.2.2.2.2.1 0 hp).1]
          refine ca (c_X7_disagreementsWith W (nth_ok hp).1 s1 (fun r r8 => full r r8)) ?_
          refine lp_up (P := fun k => ∀ c, mbk A.1 set k = some c → zwI 3 mX7_median Q 93 [(0, .ref 0), (1, .int (nI set)), (2, .int (nI t')), (3, .int (nI c)), (4, .int (nI (uAll A.1 (nth A.1 c) set 8))), (5, .int (nI k))] [] h) (N := cnt A.1) ?_ ?_ 1 (by omega) 0 rfl
          · intro c hc'
            have hlt := mbk_lt hc'
            refine rX7_median_93 ⟨fun _ => cr (c_stepTo_some W t1 hlt) (fun y k2 r2 => ?_), fun c => absurd (by rw [W.2.2.2.2.2.2.1]; exact nI_le (Nat.le_refl _) (by omega)) c⟩
            rw [← hQ, hc']
            refine ⟨rfl, ?_, r2.2.2⟩
            show CW k2 (oT A 0 (nI t') (nth A.1 c)).2
            rw [oT_0 t1]
            exact r2.2.1
          · intro k hk ih c hc'
            have hlt := mbk_lt hc'
            have u1 := uAll_le (g := nth A.1 c) (set := set) n2 8
            have u2 := uAll_le (g := nth A.1 k) (set := set) n2 8
            have e : mbk A.1 set (k + 1) = if uAll A.1 (nth A.1 k) set 8 < uAll A.1 (nth A.1 c) set 8 then some k else some c := by
              rw [mbk, hc']
            refine rX7_median_93 ⟨fun d => ?_, fun _ => ⟨k, rfl, by omega, ?_⟩⟩
            · rw [W.2.2.2.2.2.2.1] at d
              have := zle d
              omega
            rw [(W.2.2.2.2.2.2.2.1 k hk).1]
            refine ca (c_X7_disagreementsWith W (nth_ok hk).1 s1 (fun r r8 => full r r8)) ⟨fun d => ?_, fun d => ?_⟩
            · have := zle d
              rw [if_neg (by omega)] at e
              rw [nI_1]
              exact ih c e
            · have := znle d
              rw [if_pos this] at e
              rw [nI_1]
              exact ih k e
        · have hz := zeq (b := 0) c4
          rw [hz] at hQ
          rw [← hQ]
          exact W.same _
      · intro r hr ih full
        have go : (set.testBit r = true → (A.1.2.2.2.2.2.2 r).isSome = true) → ∀ r', r' < r + 1 → set.testBit r' = true → (A.1.2.2.2.2.2.2 r').isSome = true := fun q r' h1 => by
          by_cases hx : r' = r
          · rw [hx]; exact q
          · exact full r' (by omega)
        refine rX7_median_23 ⟨fun c => ?_, fun _ => ⟨fun c => ?_, fun c => ⟨r, rfl, hr, ?_⟩⟩⟩
        · have := zle (a := 8) c
          omega
        · rw [nI_1]
          exact ih (go (fun z => by rw [(zbit0 (by omega) (by omega)).mp c] at z; cases z))
        · have c' : set.testBit r = true := by
            cases hx : set.testBit r with
            | true => rfl
            | false => exact absurd ((zbit0 (by omega) (by omega)).mpr hx) c
          rw [W.2.2.1.2.2.2.2.2.2 r hr]
          refine ⟨fun c4 => ?_, fun c4 => ?_⟩
          · rw [nI_1]
            exact ih (go (fun _ => Classical.byContradiction (fun z => c4 ((encC_1 W.1.1 hr).mpr z))))
          · have := (encC_1 W.1.1 hr).mp c4
            rw [if_pos ⟨r, hr, c', none_some.mpr this⟩]
            exact W.same _
    exact key 0 (by omega) (fun _ h => absurd h (by omega))
  · have e : oM A v t = (-1, A) := by
      unfold oM
      rw [(ri_none (r := t) (by omega)).mpr (bI_0.mp c3)]
      cases ri 256 v <;> rfl
    rw [e]
    exact W.same _
theorem m7_undo {h : zw_H} {A : zA} (W : CW h A) : zcI 6 mX7_undo [.ref 0] h (opC h (oUn A)) := by
  obtain ⟨w1, w2, w3, w4, w5, w6, w7⟩ := id W
  unfold oUn
  refine zcI_of rfl pn_X7 (fun _ => Nat.le_of_ble_eq_true rfl) rfl (rX7_undo_0 ?_)
  cases hm : A.2.1 with
  | zero =>
    rw [hm] at w4
    exact ca (c_X1_restore0 w4) ⟨fun c => absurd rfl c, fun _ => W.same _⟩
  | succ m =>
    rw [hm] at w4
    have V0 : SV (A.2.2.1 0) := w1.2.1 0 (by omega)
    have T0 := w2.2 0 (by omega)
    have m10 := w4.choose_spec.2.2.2.1
    refine cr (c_X1_restore V0 w4) (fun x k1 r1 => ?_)
    obtain ⟨x1, S1, C1, f1⟩ := r1
    rw [x1]
    refine ⟨fun _ => caV (c_X7_refresh V0 T0 S1 (cC_old w1.1.2.1 V0.2.1 (w6.fr f1 (fun _ => by omega) (fun _ _ _ _ => by omega)))) (fun k2 r2 => ?_), fun c => absurd c (by decide)⟩
    obtain ⟨c2, d2, f2⟩ := r2
    have C2 : CH k2 m (fun i => A.2.2.1 (i + 1)) := C1.fr f2 (fun _ => by unfold pF pRo; omega) (fun _ _ _ _ => by unfold pF pRo; omega)
    refine ⟨C2.choose_spec.2.2.1, ⟨⟨V0, fun i hi => w1.2.1 (i + 1) (by rw [hm]; exact Nat.succ_lt_succ hi), w1.2.2⟩, ⟨T0, fun i hi => w2.2 (i + 1) (by rw [hm]; exact Nat.succ_lt_succ hi)⟩, S1.fr f2 (fun _ => by unfold pF pRo; omega) (fun _ => by unfold pF pRo; omega), C2, (w5.fr f1 (fun _ => by omega) (fun _ => by omega)).fr f2 (fun _ => by unfold pF pRo; omega) (fun _ => by unfold pF pRo; omega), c2, d2⟩, (f1.mo (fun a b z => by unfold pC; omega)).tr (f2.mo (fun a b z => by unfold pF pRo at z; unfold pC; omega))⟩
theorem c_X5_filledRegisters {h : zw_H} {s : zS} (V : SV s) (S : SO h 1 2 s) : zpI 0 mX5_filledRegisters [.ref 1] h (nI (ful s 8)) := by
  refine zcI_of rfl pn_X5 (fun _ => Nat.le_of_ble_eq_true rfl) rfl (rX5_filledRegisters_0 ?_)
  generalize hr : nI (ful s 8) = res
  refine lp_up (P := fun r => zwI 0 mX5_filledRegisters (fun x h' => x = res ∧ h' = h) 4 [(0, .ref 1), (1, .int (nI (ful s r))), (2, .int (nI r))] [] h) (N := 8) ?_ ?_ 0 (by omega)
  · exact rX5_filledRegisters_4 ⟨fun _ => ⟨hr, rfl⟩, fun c => absurd (by decide) c⟩
  · intro r hr8 ih
    rw [ful, fb_ct_succ] at ih
    refine rX5_filledRegisters_4 ⟨fun c => ?_, fun _ => ⟨r, rfl, hr8, ?_⟩⟩
    · have := zle (a := 8) c
      omega
    rw [S.2.2.2.2.2.2 r hr8]
    refine ⟨fun c => ?_, fun c => ?_⟩
    · rw [if_neg ((encC_1 V hr8).mp c)] at ih
      rw [nI_1]
      exact ih
    · rw [if_pos (Classical.byContradiction (fun z => c ((encC_1 V hr8).mpr z)))] at ih
      rw [nI_1, nI_1]
      exact ih
theorem pop_16 {m : Nat} (h : m < 32768) : pop m 15 = pop m 16 := by
  unfold pop
  rw [fb_ct_succ (fun k => m.testBit k) 15, Nat.testBit_lt_two_pow (show m < 2 ^ 15 by omega)]
  rfl
theorem m7_told {h : zw_H} {A : zA} {v : Int32} (W : CW h A) : zpI 1 mX7_told [.ref 0, .int v] h (oTold A v) := by
  obtain ⟨s1, s2, s3, s4, s5, s6, s7⟩ := id W.2.2.1
  obtain ⟨v1, v2, v3, v4, v5, v6, v7, v8⟩ := W.1.1
  have key : ∀ w : Nat, w < 9 → v = nI w → oTold A v = tld A w := fun w hw e => by
    unfold oTold
    rw [e, ri_nI hw (by omega)]
  refine zcI_of rfl pn_X7 (fun _ => Nat.le_of_ble_eq_true rfl) rfl (rX7_told_0 ⟨fun c => ⟨?_, rfl⟩, fun c => ⟨?_, rfl⟩, fun c => ?_, fun c => ⟨?_, rfl⟩, fun c => ⟨?_, rfl⟩, fun c => ?_, fun c => ?_, fun c => ?_, fun c => ⟨?_, rfl⟩, fun c => ⟨?_, rfl⟩⟩)
  · unfold oTold
    rw [(ri_none (by omega)).mpr]
    rintro ⟨k, hk, rfl⟩
    rw [nI_toInt (by omega)] at c
    omega
  · rw [key 0 (by omega) c]; exact s1
  · rw [key 1 (by omega) c]; exact ca (c_X5_filledRegisters W.1.1 W.2.2.1) ⟨rfl, rfl⟩
  · rw [key 2 (by omega) c]; exact s2
  · rw [key 3 (by omega) c]; exact s3
  · rw [key 4 (by omega) c, s4]; exact ca (c_bc v5) ⟨by rw [pop_16 v5]; rfl, rfl⟩
  · rw [key 5 (by omega) c, s5]; exact ca (c_bc v6) ⟨by rw [pop_16 v6]; rfl, rfl⟩
  · rw [key 6 (by omega) c, s6]
    have e : tld A 6 = nI A.1.2.2.2.2.2.1 := rfl
    rw [e]
    refine ⟨fun c => ⟨c.symm, rfl⟩, fun c => ⟨?_, rfl⟩⟩
    have : A.1.2.2.2.2.2.1 = 1 := by
      have : A.1.2.2.2.2.2.1 ≠ 0 := fun z => c (by rw [z]; rfl)
      omega
    rw [this]
    rfl
  · rw [key 7 (by omega) c]; exact W.2.2.2.2.1.1
  · rw [key 8 (by omega) c]; exact W.2.2.2.1.choose_spec.2.2.1
theorem wr1_some {s : zS} {r g : Nat} (hr : r < 8) (h : s.2.2.2.2.2.2 r = some g) : wr1 s (nI r) = 0 ∧ rgt s (nI r) = g := by
  constructor
  · rw [wr1_reg hr, h]
    rfl
  · unfold rgt
    rw [ri_nI hr (by omega)]
    show (s.2.2.2.2.2.2 r).getD 0 = g
    rw [h]
    rfl
theorem c_X7_hashOfRegister {h : zw_H} {A : zA} {r g : Nat} {x : Int64} (W : CW h A) (hr : r < 8) (hg : A.1.2.2.2.2.2.2 r = some g) : zcL 6 mX7_hashOfRegister [.ref 0, .long x, .int (nI r)] h (opCL h (dgR A.1 x (some g), A)) := by
  have n1 := W.1.1.1
  have n2 := W.1.1.2.1
  obtain ⟨w1, w2⟩ := wr1_some hr hg
  refine zcL_of rfl pn_X7 (fun _ => Nat.le_of_ble_eq_true rfl) rfl (rX7_hashOfRegister_0 (cr (m7_blocks W) (fun y k r1 => ?_)))
  obtain ⟨y1, W1, F1⟩ := r1
  have y1 : y = gd (wr1 A.1 (nI r)) (nI (kB A.1.1 (rgt A.1 (nI r)))) := y1
  rw [gd_0 w1, w2] at y1
  rw [y1]
  have eR : dgR A.1 x (some g) = (31 : Int64) * ((31 : Int64) * ((31 : Int64) * dgE A.1.1 g ((31 : Int64) * x + Int32.toInt64 (nI (kB A.1.1 g))) A.1.1 + Int32.toInt64 (nI (rsn A.1 g))) + Int32.toInt64 (plc A.1 g)) + Int32.toInt64 (ixI A.1 g) := rfl
  rw [eR]
  generalize hx0 : (31 : Int64) * x + Int32.toInt64 (nI (kB A.1.1 g)) = x0
  generalize hQ : opCL h ((31 : Int64) * ((31 : Int64) * ((31 : Int64) * dgE A.1.1 g x0 A.1.1 + Int32.toInt64 (nI (rsn A.1 g))) + Int32.toInt64 (plc A.1 g)) + Int32.toInt64 (ixI A.1 g), A) = Q
  refine lp_up (P := fun e => ∀ k, CW k A → Fr pC h k → zwL 6 mX7_hashOfRegister Q 17 [(0, .ref 0), (3, .int (nI r)), (4, .long (dgE A.1.1 g x0 e)), (6, .int (nI e))] [] k) (N := A.1.1) ?_ ?_ 0 (by omega) k W1 F1
  · intro k W F
    refine rX7_hashOfRegister_17 ⟨fun _ => cr (m7_why W) (fun y k1 r1 => ?_), fun c => absurd (by rw [W.2.2.1.1]; exact nI_le (Nat.le_refl _) (by omega)) c⟩
    obtain ⟨y1, W1, F1⟩ := r1
    have y1 : y = gd (wr1 A.1 (nI r)) (nI (rsn A.1 (rgt A.1 (nI r)))) := y1
    rw [gd_0 w1, w2] at y1
    refine cr (m7_where W1) (fun z k2 r2 => ?_)
    obtain ⟨z1, W2, F2⟩ := r2
    have z1 : z = gd (wr1 A.1 (nI r)) (plc A.1 (rgt A.1 (nI r))) := z1
    rw [gd_0 w1, w2] at z1
    refine ca (m7_index W2) ?_
    rw [gd_0 w1, w2, y1, z1, ← hQ]
    exact ⟨rfl, W2, (F.tr F1).tr F2⟩
  · intro e he ih k W F
    refine rX7_hashOfRegister_17 ⟨fun c => ?_, fun _ => cr (m7_blockOf W) (fun y k1 r1 => ?_)⟩
    · rw [W.2.2.1.1] at c
      have := zle c
      omega
    · obtain ⟨y1, W1, F1⟩ := r1
      have y1 : y = gd (wrE A.1 (nI r) (nI e) (nI e)) (nI (ks A.1.1 (rgt A.1 (nI r)) (el A.1.1 (nI e)))) := y1
      rw [wrE_nI n2 he he, gd_0 w1, w2, el_nI n2 he] at y1
      rw [y1, nI_1]
      exact ih k1 W1 (F.tr F1)
theorem m7_digest {h : zw_H} {A : zA} (W : CW h A) : zcL 7 mX7_digest [.ref 0] h (opCL h (dg3 A 8, A)) := by
  have n1 := W.1.1.1
  have n2 := W.1.1.2.1
  refine zcL_of rfl pn_X7 (fun _ => Nat.le_of_ble_eq_true rfl) rfl (rX7_digest_0 ?_)
  generalize hQ : opCL h (dg3 A 8, A) = Q
  refine lp_up (P := fun w => zwL 7 mX7_digest Q 6 [(0, .ref 0), (1, .long (dg1 A w)), (3, .int (nI w))] [] h) (N := 9) ?_ ?_ 0 (by omega)
  · refine rX7_digest_6 ⟨fun _ => ca (m7_count W) ?_, fun c => absurd (by decide) c⟩
    show zwL 7 mX7_digest _ 45 [(0, .ref 0), (1, .long (dg2 A 0)), (3, .int (nI (0 + 1)))] [] h
    refine lp_up (P := fun k => zwL 7 mX7_digest Q 45 [(0, .ref 0), (1, .long (dg2 A k)), (3, .int (nI (k + 1)))] [] h) (N := 6) ?_ ?_ 0 (by omega)
    · refine rX7_digest_45 ⟨fun _ => ?_, fun c => absurd (by decide) c⟩
      show zwL 7 mX7_digest _ 72 [(0, .ref 0), (1, .long (dg3 A 0)), (3, .int (nI 0))] [] h
      refine lp_up (P := fun r => ∀ k, CW k A → Fr pC h k → zwL 7 mX7_digest Q 72 [(0, .ref 0), (1, .long (dg3 A r)), (3, .int (nI r))] [] k) (N := 8) ?_ ?_ 0 (by omega) h W Fr.rf
      · intro k W F
        refine rX7_digest_72 ⟨fun _ => ?_, fun c => absurd (by decide) c⟩
        rw [← hQ]
        exact ⟨rfl, W, F⟩
      · intro r hr8 ih k W F
        rw [dg3] at ih
        refine rX7_digest_72 ⟨fun c => ?_, fun _ => ⟨r, rfl, hr8, ?_⟩⟩
        · have := zle (a := 8) c
          omega
        rw [W.2.2.1.2.2.2.2.2.2 r hr8]
        refine ⟨fun c => ?_, fun c => ?_⟩
        · cases hx : A.1.2.2.2.2.2.2 r with
          | none => rw [hx] at c; exact absurd rfl c
          | some g =>
            rw [hx] at ih
            refine crL (c_X7_hashOfRegister W hr8 hx) (fun y k1 r1 => ?_)
            obtain ⟨y1, W1, F1⟩ := r1
            rw [y1, nI_1]
            exact ih k1 W1 (F.tr F1)
        · have := (encC_1 W.1.1 hr8).mp c
          rw [none_some.mpr this] at ih
          rw [nI_1]
          exact ih k W F
    · intro k hk ih
      refine rX7_digest_45 ⟨fun c => ?_, fun _ => ca (m7_countWith W) ?_⟩
      · have := zlt (a := 6) c
        omega
      · have e : oCW A.1 (nI (k + 1)) = nI (cwN A.1 (k + 1) (kN A.1.1)) := by
          unfold oCW
          have : r16 (nI (k + 1)) = some (k + 1) := by
            unfold r16
            rw [nI_toInt (by omega), if_pos (by omega)]
            rfl
          rw [this]
        rw [e, nI_1]
        exact ih
  · intro w hw ih
    refine rX7_digest_6 ⟨fun c => ?_, fun _ => ca (m7_told W) ?_⟩
    · have := zlt (a := 8) c
      omega
    · have e : oTold A (nI w) = tld A w := by
        unfold oTold
        rw [ri_nI hw (by omega)]
      rw [e, nI_1]
      exact ih
