theorem sReg_self {s : zS} {a g : Nat} (h : s.2.2.2.2.2.2 a = some g) : sReg s a (some g) = s := by
  obtain ⟨s1, s2, s3, s4, s5, s6, s7⟩ := s
  have e : (fun r => if r = a then some g else s7 r) = s7 := by
    funext r
    by_cases hx : r = a
    · rw [if_pos hx, hx]
      exact h.symm
    · rw [if_neg hx]
  show (s1, s2, s3, s4, s5, s6, (fun r => if r = a then some g else s7 r)) = _
  rw [e]
theorem c_stepTo_some {h : zw_H} {A : zA} {t k : Nat} (W : CW h A) (ht : t < 8) (hk : k < cnt A.1) : zcI 2 mX7_stepTo [.ref 0, .int (nI t), .int (nI k)] h (fun x h' => x = nI k ∧ CW h' (chg A (sReg A.1 t (some (nth A.1 k)))) ∧ Fr pC h h') := by
  have hN := (kN_le W.1.1.1 W.1.1.2.1).1
  have hc := cnt_le A.1
  refine zcI_of rfl pn_X7 (fun _ => Nat.le_of_ble_eq_true rfl) rfl (rX7_stepTo_0 (caV (c_X1_remember W.1.1 W.2.2.1 W.2.2.2.1) (fun k1 r1 => ?_)))
  have C1 : CR k1 A.1 := W.2.2.2.2.2.2.fr r1.2 (by unfold pH; omega) (fun _ _ _ _ => by unfold pH; omega)
  refine ca (c_X2_has W.1.1.1 W.1.1.2.1 C1) ⟨fun _ => ⟨k, rfl, by omega, t, rfl, ht, fun k2 e2 => ?_⟩, fun c => absurd ⟨k, hk, rfl⟩ (bI_0.mp c)⟩
  rw [(C1.2.1 k hk).1] at e2
  obtain ⟨x, y⟩ := c_regset W ht (nth_ok hk).1 r1.1 r1.2 e2
  exact ⟨rfl, x, y⟩
theorem c_stepTo_none {h : zw_H} {A : zA} {t : Nat} (W : CW h A) : zcI 2 mX7_stepTo [.ref 0, .int (nI t), .int (-9)] h (fun x h' => x = -9 ∧ CW h' (chg A A.1) ∧ Fr pC h h') := by
  have hN := (kN_le W.1.1.1 W.1.1.2.1).1
  have hc := cnt_le A.1
  refine zcI_of rfl pn_X7 (fun _ => Nat.le_of_ble_eq_true rfl) rfl (rX7_stepTo_0 (caV (c_X1_remember W.1.1 W.2.2.1 W.2.2.2.1) (fun k1 r1 => ?_)))
  have C1 : CR k1 A.1 := W.2.2.2.2.2.2.fr r1.2 (by unfold pH; omega) (fun _ _ _ _ => by unfold pH; omega)
  refine ca (c_X2_has W.1.1.1 W.1.1.2.1 C1) ⟨fun c => ?_, fun _ => ⟨rfl, ?_, r1.2.mo (fun a b z => by unfold pH at z; unfold pC; omega)⟩⟩
  · obtain ⟨j, hj, e⟩ := bI_yes c
    exact absurd e.symm (nI_9 (by omega))
  · obtain ⟨w1, w2, w3, w4, w5, w6, w7⟩ := W
    have hm := w4.choose_spec.2.2.2.1
    exact ⟨w1.chg w1.1 hm, w2.chg w2.1 hm, w3.fr r1.2 (fun _ => by unfold pH; omega) (fun _ => by unfold pH; omega), r1.1, w5.fr r1.2 (fun _ => by unfold pH; omega) (fun _ => by unfold pH; omega), w6.fr r1.2 (fun _ => by unfold pH; omega) (fun _ _ _ _ => by unfold pH; omega), C1⟩
theorem m7_unrank {h : zw_H} {A : zA} {t k : Int32} (W : CW h A) : zcI 5 mX7_unrank [.ref 0, .int t, .int k] h (opC h (oU A t k)) := by
  have hN := (kN_le W.1.1.1 W.1.1.2.1).1
  have hc := cnt_le A.1
  refine zcI_of rfl pn_X7 (fun _ => Nat.le_of_ble_eq_true rfl) rfl (rX7_unrank_0 (ca (c_X7_isRegister h t) ⟨fun c => ?_, fun c => ca (c_X2_has W.1.1.1 W.1.1.2.1 W.2.2.2.2.2.2) ⟨fun c2 => ?_, fun c2 => ?_⟩⟩))
  · unfold oU
    rw [oT_bad (bI_0.mp c)]
    exact W.same _
  · obtain ⟨k', k1, rfl⟩ := bI_yes c2
    obtain ⟨t', t1, rfl⟩ := bI_yes c
    unfold oU
    rw [ri_nI k1 (by omega), if_pos (show (some k').isSome = true from rfl)]
    refine ⟨k', rfl, by omega, ?_⟩
    rw [(W.2.2.2.2.2.2.2.1 k' k1).1]
    exact c_put W Fr.rf t1 (nth_ok k1).1
  · unfold oU
    rw [(ri_none (by omega)).mpr (bI_0.mp c2), if_neg (by decide), oT_f (bI_yes c) (by decide)]
    exact W.same _
/-- a step to what was found -/
theorem c_step {h k : zw_H} {A : zA} {r : Int32} {o : Option Nat} (W : CW k A) (F : Fr pC h k) (hw : wr1 A.1 r = 0) (ho : ∀ g, o = some g → g < kN A.1.1 ∧ adm A.1 g = true) : ∃ q : Int32 → zw_H → Prop, zcI 2 mX7_stepTo [.ref 0, .int r, .int (enc1 (o.map (ix A.1)))] k q ∧ ∀ (x : Int32) (h2 : zw_H), q x h2 → opC h (oN A r o) x h2 := by
  obtain ⟨a, a1, a2, a3, a4⟩ := rgt_ok W.1.1 hw
  unfold oN
  rw [if_pos hw]
  cases o with
  | none =>
    have := c_stepTo_none (t := a) W
    rw [← a2] at this
    refine ⟨_, this, fun x h2 r2 => ⟨r2.1, ?_, F.tr r2.2.2⟩⟩
    show CW h2 (oT A 0 r (rgt A.1 r)).2
    have e1 : oT A 0 r (rgt A.1 r) = oT A 0 (nI a) (rgt A.1 r) := by rw [← a2]
    rw [e1, oT_0 a1]
    show CW h2 (chg A (sReg A.1 a (some (rgt A.1 r))))
    rw [sReg_self a3]
    exact r2.2.1
  | some g =>
    obtain ⟨g1, g2⟩ := ho g rfl
    obtain ⟨i1, i2⟩ := nth_ix g1 g2
    have := c_stepTo_some (t := a) (k := ix A.1 g) W a1 i1
    rw [← a2, i2] at this
    refine ⟨_, this, fun x h2 r2 => ⟨r2.1, ?_, F.tr r2.2.2⟩⟩
    show CW h2 (oT A 0 r g).2
    have e1 : oT A 0 r g = oT A 0 (nI a) g := by rw [← a2]
    rw [e1, oT_0 a1]
    exact r2.2.1
theorem oN_f {A : zA} {r : Int32} {o : Option Nat} (h : ¬ wr1 A.1 r = 0) : oN A r o = (wr1 A.1 r, A) := if_neg h
theorem m7_next {h : zw_H} {A : zA} {r : Int32} (W : CW h A) : zcI 4 mX7_next [.ref 0, .int r] h (opC h (oN A r (nx A.1 (rgt A.1 r)))) := by
  have n1 := W.1.1.1
  have n2 := W.1.1.2.1
  refine zcI_of rfl pn_X7 (fun _ => Nat.le_of_ble_eq_true rfl) rfl (rX7_next_0 (ca (c_X7_faultOf W) ⟨fun c => ?_, fun c => ?_⟩))
  · rw [fo_1, wr2_self] at c
    obtain ⟨a, a1, a2, a3, a4⟩ := rgt_ok W.1.1 c
    refine caV (c_X7_spellRegister W c) (fun k1 r1 => ?_)
    have W1 := W.fr r1.2
    refine ca (c_X3_growthNumber zs_48 zs_49 zs_50 n1 n2 a4 r1.1) (ca (c_X2_firstBehind n1 n2 W1.2.2.2.2.2.2 a4) (c_step W1 (r1.2.mo (fun _ _ z => pQ_C z)) c (fun g z => ?_)))
    have := fs_some z
    exact ⟨by omega, this.2.2.1⟩
  · rw [fo_1, wr2_self] at c ⊢
    rw [oN_f c]
    exact W.same _
theorem m7_previous {h : zw_H} {A : zA} {r : Int32} (W : CW h A) : zcI 4 mX7_previous [.ref 0, .int r] h (opC h (oN A r (pv A.1 (rgt A.1 r)))) := by
  have n1 := W.1.1.1
  have n2 := W.1.1.2.1
  refine zcI_of rfl pn_X7 (fun _ => Nat.le_of_ble_eq_true rfl) rfl (rX7_previous_0 (ca (c_X7_faultOf W) ⟨fun c => ?_, fun c => ?_⟩))
  · rw [fo_1, wr2_self] at c
    obtain ⟨a, a1, a2, a3, a4⟩ := rgt_ok W.1.1 c
    refine caV (c_X7_spellRegister W c) (fun k1 r1 => ?_)
    have W1 := W.fr r1.2
    refine ca (c_X3_growthNumber zs_48 zs_49 zs_50 n1 n2 a4 r1.1) (ca (c_X2_lastBefore n1 n2 W1.2.2.2.2.2.2 a4) (c_step W1 (r1.2.mo (fun _ _ z => pQ_C z)) c (fun g z => ?_)))
    have := ls_some z
    exact ⟨by omega, this.2.1⟩
  · rw [fo_1, wr2_self] at c ⊢
    rw [oN_f c]
    exact W.same _
theorem m7_draw {h : zw_H} {A : zA} {t x : Int32} (W : CW h A) : zcI 3 mX7_draw [.ref 0, .int t, .int x] h (opC h (oD A t x)) := by
  have hN := (kN_le W.1.1.1 W.1.1.2.1).1
  have hc := cnt_le A.1
  have h8 := W.2.2.2.2.2.2.1
  obtain ⟨d1, d2⟩ := dk_ok x
  refine zcI_of rfl pn_X7 (fun _ => Nat.le_of_ble_eq_true rfl) rfl (rX7_draw_0 (ca (c_X7_isRegister h t) ⟨fun c => ⟨fun c2 => ?_, fun c2 => ?_⟩, fun c => ?_⟩))
  · rw [h8] at c2
    have hp : cnt A.1 ≠ 0 := fun z => c2 (by rw [z]; rfl)
    obtain ⟨t', t1, rfl⟩ := bI_yes c
    have hm : dk x % cnt A.1 < cnt A.1 := Nat.mod_lt _ (by omega)
    have e : oD A (nI t') x = (nI (dk x % cnt A.1), (oT A 0 (nI t') (nth A.1 (dk x % cnt A.1))).2) := by
      unfold oD
      rw [ri_nI t1 (by omega)]
      dsimp only
      rw [if_neg hp]
    rw [e, h8, d2, pk_rem (by omega) (by omega) (by omega)]
    refine ⟨c2, cr (c_stepTo_some W t1 hm) (fun y h2 r2 => ⟨r2.1, ?_, r2.2.2⟩)⟩
    rw [oT_0 t1]
    exact r2.2.1
  · rw [h8] at c2
    obtain ⟨t', t1, rfl⟩ := bI_yes c
    unfold oD
    rw [ri_nI t1 (by omega)]
    dsimp only
    rw [if_pos (zeq (b := 0) c2)]
    exact W.same _
  · unfold oD
    rw [(ri_none (by omega)).mpr (bI_0.mp c)]
    exact W.same _
/-- an answer behind scratch work -/
theorem CW.ans {h k : zw_H} {A : zA} (W : CW h A) (f : Fr pQ h k) (x : Int32) : opC h (x, A) x k := ⟨rfl, W.fr f, f.mo (fun _ _ z => pQ_C z)⟩
theorem m7_blocks {h : zw_H} {A : zA} {r : Int32} (W : CW h A) : zcI 4 mX7_blocks [.ref 0, .int r] h (opC h (gd (wr1 A.1 r) (nI (kB A.1.1 (rgt A.1 r))), A)) := by
  refine zcI_of rfl pn_X7 (fun _ => Nat.le_of_ble_eq_true rfl) rfl (rX7_blocks_0 (ca (c_X7_faultOf W) ⟨fun c => ?_, fun c => ?_⟩))
  · rw [fo_1, wr2_self] at c
    obtain ⟨a, a1, a2, a3, a4, a5⟩ := W.reg c
    rw [gd_0 c]
    refine ⟨a, a2, a1, ?_⟩
    rw [a5]
    refine cr (c_X7_blockCountOf W a4) (fun x k r => ?_)
    rw [r.1]
    exact W.ans r.2 _
  · rw [fo_1, wr2_self] at c ⊢
    rw [gd_f c]
    exact W.same _
theorem wrE_fo {A : zA} {r i : Int32} (n2 : A.1.1 ≤ 6) : fo A.1 r r (bI (iR i A.1.1)) = wrE A.1 r i i := by
  by_cases hi : iR i A.1.1
  · obtain ⟨x, hx, rfl⟩ := hi
    rw [bI_t ⟨x, hx, rfl⟩, fo_1, wr2_self, wrE_nI n2 hx hx]
  · rw [bI_f hi, fo_0, wrE_1 n2 hi]
theorem m7_blockOf {h : zw_H} {A : zA} {r i : Int32} (W : CW h A) : zcI 4 mX7_blockOf [.ref 0, .int r, .int i] h (opC h (gd (wrE A.1 r i i) (nI (ks A.1.1 (rgt A.1 r) (el A.1.1 i))), A)) := by
  have n2 := W.1.1.2.1
  refine zcI_of rfl pn_X7 (fun _ => Nat.le_of_ble_eq_true rfl) rfl (rX7_blockOf_0 (ca (c_X7_isElement W) (ca (c_X7_faultOf W) ⟨fun c => ?_, fun c => ?_⟩)))
  · obtain ⟨c1, c2⟩ := fo_ok c
    rw [wrE_fo n2] at c
    obtain ⟨x, hx, rfl⟩ := bI_yes c1
    rw [wr2_self] at c2
    rw [gd_0 c, el_nI n2 hx]
    refine caV (c_X7_spellRegister W c2) (fun k1 r1 => ⟨x, rfl, by omega, ?_⟩)
    rw [r1.1.2.2.1 x hx]
    exact W.ans r1.2 _
  · rw [wrE_fo n2] at c ⊢
    rw [gd_f c]
    exact W.same _
theorem bms_ke {n g b : Nat} (n1 : 1 ≤ n) (n2 : n ≤ 6) (hg : g < kN n) (hb : b < 6) : ∀ e, e ≤ n → bms n g (nI b) e = ke n (kt n g) b e
  | 0, _ => rfl
  | e + 1, he => by
    have ih := bms_ke n1 n2 hg hb e (by omega)
    have hk := ks_lt n1 n2 hg (show e < n by omega)
    rw [bms, ke, ih]
    have e1 : kd n (kt n g) e = ks n g e := rfl
    rw [e1]
    by_cases hx : ks n g e = b
    · rw [if_pos hx, if_pos (by rw [hx]), ke_or]
    · rw [if_neg hx, if_neg (fun z => hx (zeq z))]
theorem bms_no {n g : Nat} {b : Int32} : ∀ e, (∀ f, f < e → nI (ks n g f) ≠ b) → bms n g b e = 0
  | 0, _ => rfl
  | e + 1, h => by rw [bms, if_neg (h e (by omega)), bms_no e (fun f hf => h f (by omega))]
theorem ke_pos : (k6.all fun n => (kT n).all fun t => (List.range (kb n t n)).all fun b => decide (ke n t b n ≠ 0)) = true := by decide +kernel
theorem m7_block {h : zw_H} {A : zA} {r b : Int32} (W : CW h A) : zcI 4 mX7_block [.ref 0, .int r, .int b] h (opC h (gd (wr1 A.1 r) (if bms A.1.1 (rgt A.1 r) b A.1.1 = 0 then -9 else nI (bms A.1.1 (rgt A.1 r) b A.1.1)), A)) := by
  have n1 := W.1.1.1
  have n2 := W.1.1.2.1
  refine zcI_of rfl pn_X7 (fun _ => Nat.le_of_ble_eq_true rfl) rfl (rX7_block_0 (ca (c_X7_faultOf W) ⟨fun c => ?_, fun c => ?_⟩))
  · rw [fo_1, wr2_self] at c
    obtain ⟨a, a1, a2, a3, a4, a5⟩ := W.reg c
    have hB := kB_le n1 n2 a4
    rw [gd_0 c]
    refine caV (c_X7_spellRegister W c) (fun k1 r1 => ?_)
    rw [r1.1.2.1]
    have out : ¬ iR b (kB A.1.1 (rgt A.1 r)) → opC h (if bms A.1.1 (rgt A.1 r) b A.1.1 = 0 then -9 else nI (bms A.1.1 (rgt A.1 r) b A.1.1), A) (-9) k1 := fun no => by
      rw [if_pos (bms_no _ (fun f hf z => no ⟨_, ks_ltB n1 n2 a4 hf, z.symm⟩))]
      exact W.ans r1.2 _
    refine ⟨fun c2 => out (iR_neg c2 (by omega)), fun c2 => ⟨fun c3 => ?_, fun c3 => out (fun ⟨j, hj, e⟩ => c3 (by rw [e]; exact nI_lt hj (by omega)))⟩⟩
    have hR : iR b (kB A.1.1 (rgt A.1 r)) := iR_of c2 (fun z => by
      rw [Int32.lt_iff_toInt_lt] at c3
      rw [Int32.le_iff_toInt_le] at z
      omega) (by omega)
    obtain ⟨j, hj, rfl⟩ := hR
    have hne : ke A.1.1 (kt A.1.1 (rgt A.1 r)) j A.1.1 ≠ 0 := of_decide_eq_true (List.all_eq_true.mp (k6_all ke_pos n1 n2 a4) j (List.mem_range.mpr hj))
    rw [bms_ke n1 n2 a4 (by omega) A.1.1 (Nat.le_refl _), if_neg hne]
    refine ⟨j, rfl, by omega, ?_⟩
    rw [r1.1.2.2.2 j hj]
    exact W.ans r1.2 _
  · rw [fo_1, wr2_self] at c ⊢
    rw [gd_f c]
    exact W.same _
theorem m7_typeOf {h : zw_H} {A : zA} {r : Int32} (W : CW h A) : zcI 4 mX7_typeOf [.ref 0, .int r] h (opC h (gd (wr1 A.1 r) (tyS A.1.1 (rgt A.1 r) (kB A.1.1 (rgt A.1 r))), A)) := by
  have n1 := W.1.1.1
  have n2 := W.1.1.2.1
  refine zcI_of rfl pn_X7 (fun _ => Nat.le_of_ble_eq_true rfl) rfl (rX7_typeOf_0 (ca (c_X7_faultOf W) ⟨fun c => ?_, fun c => ?_⟩))
  · rw [fo_1, wr2_self] at c
    obtain ⟨a, a1, a2, a3, a4, a5⟩ := W.reg c
    rw [gd_0 c]
    exact caV (c_X7_spellRegister W c) (fun k1 r1 => ca (c_X3_typeNumber zs_48 zs_49 zs_50 n1 n2 a4 r1.1) (W.ans r1.2 _))
  · rw [fo_1, wr2_self] at c ⊢
    rw [gd_f c]
    exact W.same _
theorem m7_crossings {h : zw_H} {A : zA} {r : Int32} (W : CW h A) : zcI 4 mX7_crossings [.ref 0, .int r] h (opC h (gd (wr1 A.1 r) (nI (crN A.1.1 (rgt A.1 r) (kB A.1.1 (rgt A.1 r)))), A)) := by
  have n1 := W.1.1.1
  have n2 := W.1.1.2.1
  refine zcI_of rfl pn_X7 (fun _ => Nat.le_of_ble_eq_true rfl) rfl (rX7_crossings_0 (ca (c_X7_faultOf W) ⟨fun c => ?_, fun c => ?_⟩))
  · rw [fo_1, wr2_self] at c
    obtain ⟨a, a1, a2, a3, a4, a5⟩ := W.reg c
    rw [gd_0 c]
    exact caV (c_X7_spellRegister W c) (fun k1 r1 => ca (c_X3_crossingCount zs_48 zs_49 zs_50 n1 n2 a4 r1.1) (W.ans r1.2 _))
  · rw [fo_1, wr2_self] at c ⊢
    rw [gd_f c]
    exact W.same _
theorem m7_index {h : zw_H} {A : zA} {r : Int32} (W : CW h A) : zpI 2 mX7_index [.ref 0, .int r] h (gd (wr1 A.1 r) (ixI A.1 (rgt A.1 r))) := by
  refine zcI_of rfl pn_X7 (fun _ => Nat.le_of_ble_eq_true rfl) rfl (rX7_index_0 (ca (c_X7_faultOf W) ⟨fun c => ?_, fun c => ?_⟩))
  · rw [fo_1, wr2_self] at c
    obtain ⟨a, a1, a2, a3, a4, a5⟩ := W.reg c
    refine ⟨a, a2, a1, ?_⟩
    rw [a5]
    exact ca (c_X2_find W.1.1.1 W.1.1.2.1 W.2.2.2.2.2.2 a4) ⟨(gd_0 c).symm, rfl⟩
  · rw [fo_1, wr2_self] at c ⊢
    exact ⟨(gd_f c).symm, rfl⟩
theorem m7_why {h : zw_H} {A : zA} {r : Int32} (W : CW h A) : zcI 4 mX7_why [.ref 0, .int r] h (opC h (gd (wr1 A.1 r) (nI (rsn A.1 (rgt A.1 r))), A)) := by
  have n1 := W.1.1.1
  have n2 := W.1.1.2.1
  refine zcI_of rfl pn_X7 (fun _ => Nat.le_of_ble_eq_true rfl) rfl (rX7_why_0 (ca (c_X7_faultOf W) ⟨fun c => ?_, fun c => ?_⟩))
  · rw [fo_1, wr2_self] at c
    obtain ⟨a, a1, a2, a3, a4, a5⟩ := W.reg c
    rw [gd_0 c]
    refine ⟨a, a2, a1, ?_⟩
    rw [a5]
    refine caV (c_X7_spellRegister W c) (fun k1 r1 => ?_)
    have W1 := W.fr r1.2
    have e9 := enc2_9 (o := kF A.1.1 (rgt A.1 r)) (fun p q z => by
      have := kF_lt z
      have := kB_le n1 n2 a4
      omega)
    have go : ∀ v, v = bI ((kF A.1.1 (rgt A.1 r)).isSome = true) → ∃ q : Int32 → zw_H → Prop, zcI 1 mX3_sizeSet [.ref 48] k1 q ∧ ∀ (x : Int32) (h2 : zw_H), q x h2 → ∃ q2 : Int32 → zw_H → Prop, zcI 0 mX5_reason [.ref 1, .int (nI (km A.1.1 (rgt A.1 r))), .int x, .int (h2.1 48 3), .int v] h2 q2 ∧ ∀ (x2 : Int32) (h3 : zw_H), q2 x2 h3 → opC h (nI (rsn A.1 (rgt A.1 r)), A) x2 h3 := fun v ev => by
      refine ca (c_X3_sizeSet zs_48 zs_49 zs_50 n1 n2 a4 r1.1) ?_
      rw [r1.1.2.1, ev]
      exact ca (c_X5_reason W1.1.1 W1.2.1.1 W1.2.2.1 a4) (W.ans r1.2 _)
    refine ca (c_X3_firstCrossing zs_48 zs_49 zs_50 n1 n2 a4 r1.1) ⟨fun c3 => go 0 ?_, fun c3 => go 1 ?_⟩
    · exact (bI_f (none_some.mp (e9.mp c3))).symm
    · refine (bI_t ?_).symm
      cases hx : kF A.1.1 (rgt A.1 r) with
      | none => exact absurd (e9.mpr hx) c3
      | some _ => rfl
  · rw [fo_1, wr2_self] at c ⊢
    rw [gd_f c]
    exact W.same _
/-- the first pair of a set -/
def fpR (m : Nat) : Int32 := match fs (fun p => m.testBit p) 0 15 with
  | none => -9
  | some p => nI (10 * kI p + kJ p)
theorem c_X7_firstPair {h : zw_H} {m : Nat} (hm : m < 32768) : zpI 0 mX7_firstPair [.int (nI m)] h (fpR m) := by
  refine zcI_of rfl pn_X7 (fun _ => Nat.le_of_ble_eq_true rfl) rfl (rX7_firstPair_0 ?_)
  have e0 : fpR m = match fs (fun p => m.testBit p) 0 (15 - 0) with | none => -9 | some p => nI (10 * kI p + kJ p) := rfl
  rw [e0]
  refine lp_up (P := fun p => zwI 0 mX7_firstPair (fun x h' => x = (match fs (fun p => m.testBit p) p (15 - p) with | none => -9 | some p => nI (10 * kI p + kJ p)) ∧ h' = h) 2 [(0, .int (nI m)), (1, .int (nI p))] [] h) (N := 15) ?_ ?_ 0 (by omega)
  · exact rX7_firstPair_2 ⟨fun _ => ⟨by rw [fs_end (Nat.le_refl _)], rfl⟩, fun c => absurd (by decide) c⟩
  · intro p hp ih
    obtain ⟨s1, s2, i1, i2, i3⟩ := kIJ p hp
    refine rX7_firstPair_2 ⟨fun c => ?_, fun _ => ⟨fun c => ?_, fun c => ⟨p, rfl, hp, p, rfl, hp, ?_, rfl⟩⟩⟩
    · have := zle (a := 15) c
      omega
    · have c' := (zbit0 (by omega) (by omega)).mp c
      rw [fs_step hp, if_neg (by rw [c']; decide), nI_1]
      exact ih
    · have c' : m.testBit p = true := by
        cases hx : m.testBit p with
        | true => rfl
        | false => exact absurd ((zbit0 (by omega) (by omega)).mpr hx) c
      rw [fs_step hp, if_pos c', s1, s2, show (10 : Int32) = nI 10 from rfl, pk_mul, nI_add]
theorem kp_lex : ((kP 6).all fun p => (kP 6).all fun q => decide (kp p.1 p.2 < kp q.1 q.2) == (decide (p.1 < q.1) || (decide (p.1 = q.1) && decide (p.2 < q.2)))) = true := by decide +kernel
theorem fpR_kPr {m set n g : Nat} {one : Bool} (n2 : n ≤ 6) (hm : ∀ i j, i < j → j < 6 → m.testBit (kp i j) = (decide (j < n) && (set.testBit (kp i j) && (decide (ks n g i = ks n g j) == one)))) : fpR m = enc2 (kPr set one n g) := by
  unfold fpR
  cases hx : kPr set one n g with
  | none =>
    have h := kPr_none.mp hx
    have hz : fs (fun p => m.testBit p) 0 15 = none := fs_none.mpr (fun p _ hp => by
      obtain ⟨_, _, i1, i2, i3⟩ := kIJ p (by omega)
      have := hm _ _ i1 i2
      rw [i3] at this
      show m.testBit p = false
      rw [this]
      by_cases hn : kJ p < n
      · have h3 := h _ _ i1 hn
        rw [i3] at h3
        rw [h3, Bool.and_false]
      · rw [decide_eq_false hn, Bool.false_and])
    rw [hz]
    rfl
  | some pq =>
    obtain ⟨p, q⟩ := pq
    unfold kPr at hx
    obtain ⟨_, h2, h3, h4, h5⟩ := fs2_some (by omega) hx
    have hmb : m.testBit (kp p q) = true := by
      rw [hm p q h2 (by omega), decide_eq_true h3, Bool.true_and]
      exact h4
    have hk := kp_lt p (by omega) q (by omega) h2
    cases hy : fs (fun p => m.testBit p) 0 15 with
    | none =>
      have := fs_none.mp hy (kp p q) (by omega) (by omega)
      rw [hmb] at this
      cases this
    | some x =>
      obtain ⟨_, y2, y3, y4⟩ := fs_some hy
      obtain ⟨_, _, i1, i2, i3⟩ := kIJ x (by omega)
      have hb := hm _ _ i1 i2
      rw [i3] at hb
      have y3 : m.testBit x = true := y3
      rw [y3] at hb
      have hb := hb.symm
      rw [Bool.and_eq_true, decide_eq_true_eq] at hb
      have le1 : ¬ kp p q < x := fun z => by
        have := y4 (kp p q) (by omega) z
        rw [hmb] at this
        cases this
      have le2 : ¬ x < kp p q := fun z => by
        have l := eq_of_beq (List.all_eq_true.mp (List.all_eq_true.mp kp_lex (kI x, kJ x) (kP_mem i1 i2)) (p, q) (kP_mem h2 (by omega)))
        dsimp only at l
        rw [i3, decide_eq_true z] at l
        have l := l.symm
        rw [Bool.or_eq_true, Bool.and_eq_true, decide_eq_true_eq, decide_eq_true_eq, decide_eq_true_eq] at l
        have h6 := h5 (kI x) (kJ x) (by omega) i1 hb.1 l
        rw [i3, hb.2] at h6
        cases h6
      have e : x = kp p q := by omega
      obtain ⟨q1, q2⟩ := kIJ_kp q (by omega) p h2
      dsimp only
      rw [e, q1, q2]
      rfl
theorem wr1_cases (s : zS) (r : Int32) : wr1 s r = 0 ∨ wr1 s r = -1 ∨ wr1 s r = -2 := by
  unfold wr1
  cases ri 8 r with
  | none => exact Or.inr (Or.inl rfl)
  | some a =>
    dsimp only
    split
    · exact Or.inl rfl
    · exact Or.inr (Or.inr rfl)
theorem m7_where {h : zw_H} {A : zA} {r : Int32} (W : CW h A) : zcI 5 mX7_where [.ref 0, .int r] h (opC h (gd (wr1 A.1 r) (plc A.1 (rgt A.1 r)), A)) := by
  have n1 := W.1.1.1
  have n2 := W.1.1.2.1
  refine zcI_of rfl pn_X7 (fun _ => Nat.le_of_ble_eq_true rfl) rfl (rX7_where_0 (cr (m7_why W) (fun x k0 r0 => ?_)))
  obtain ⟨x1, W0, F0⟩ := r0
  have x1 : x = gd (wr1 A.1 r) (nI (rsn A.1 (rgt A.1 r))) := x1
  have W0 : CW k0 A := W0
  by_cases c : wr1 A.1 r = 0
  · rw [gd_0 c] at x1
    rw [gd_0 c, x1]
    obtain ⟨a, a1, a2, a3, a4, a5⟩ := W0.reg c
    have hr := rsn_le6 A.1 (rgt A.1 r)
    have hm := km_lt n1 n2 a4
    have hN := (kN_le n1 n2).1
    refine ⟨fun _ => ⟨a, a2, a1, caV (c_X7_spellRegister W0 c) (fun k r1 => ?_)⟩, fun c2 => absurd ?_ c2⟩
    · have W1 := W0.fr r1.2
      have F1 : Fr pC h k := F0.tr (r1.2.mo (fun _ _ z => pQ_C z))
      rw [a5, W1.2.2.1.2.1, W1.2.2.1.2.2.2.1, W1.2.2.1.2.2.2.2.1, r1.1.2.1]
      have V := W.1.1
      refine ⟨fun d => ⟨?_, W1, F1⟩, fun d => ?_, fun d => ⟨?_, W1, F1⟩, fun d => ?_, fun d => ?_, fun d => ?_⟩
      · rw [nI_toInt (by omega)] at d
        show _ = plc A.1 (rgt A.1 r)
        rw [plc, if_neg (by omega), if_neg (by omega), if_neg (by omega), if_neg (by omega), if_neg (by omega)]
      · have e : rsn A.1 (rgt A.1 r) = 1 := zeq (b := 1) d
        refine ca (c_X3_firstBlockNotIn zs_48 zs_49 zs_50 n1 n2 a4 V.2.2.1 r1.1) ⟨?_, W1, F1⟩
        show _ = plc A.1 (rgt A.1 r)
        rw [plc, if_pos e]
      · have e : rsn A.1 (rgt A.1 r) = 2 := zeq (b := 2) d
        show _ = plc A.1 (rgt A.1 r)
        rw [plc, if_neg (by omega), if_pos e]
      · have e : rsn A.1 (rgt A.1 r) = 3 := zeq (b := 3) d
        rw [zand]
        refine ca (c_X7_firstPair (Nat.lt_of_le_of_lt Nat.and_le_left hm)) ⟨?_, W1, F1⟩
        show _ = plc A.1 (rgt A.1 r)
        rw [plc, if_neg (by omega), if_neg (by omega), if_pos e]
        refine fpR_kPr n2 (fun i j hij hj => ?_)
        rw [Nat.testBit_and, km_bit n1 n2 a4 hij hj, beq_true, Bool.and_assoc, Bool.and_comm (decide (ks A.1.1 (rgt A.1 r) i = ks A.1.1 (rgt A.1 r) j))]
      · have e : rsn A.1 (rgt A.1 r) = 4 := zeq (b := 4) d
        have htg := V.2.2.2.2.2.1
        rw [zdel (by omega)]
        refine ca (c_X7_firstPair (Nat.lt_of_le_of_lt Nat.and_le_left htg)) ⟨?_, W1, F1⟩
        show _ = plc A.1 (rgt A.1 r)
        rw [plc, if_neg (by omega), if_neg (by omega), if_neg (by omega), if_pos e]
        refine fpR_kPr n2 (fun i j hij hj => ?_)
        have hk := kp_lt i (by omega) j hj hij
        have hA := congrArg (fun z => z.testBit (kp i j)) W.2.1.1
        simp only [Nat.testBit_and, kA_bit n1 n2 hij hj] at hA
        rw [Nat.testBit_and, Nat.testBit_xor, km_bit n1 n2 a4 hij hj, big_bit _ hk]
        by_cases hjn : j < A.1.1
        · simp [hjn]
        · rw [decide_eq_false hjn, Bool.and_false] at hA
          rw [← hA, decide_eq_false hjn]
          simp
      · have e : rsn A.1 (rgt A.1 r) = 5 := zeq (b := 5) d
        refine ca (c_X3_firstCrossing zs_48 zs_49 zs_50 n1 n2 a4 r1.1) ⟨?_, W1, F1⟩
        show _ = plc A.1 (rgt A.1 r)
        rw [plc, if_neg (by omega), if_neg (by omega), if_neg (by omega), if_neg (by omega), if_pos e]
    · exact nI_le (a := 0) (Nat.zero_le _) (by omega)
  · rw [gd_f c] at x1
    rw [gd_f c, x1]
    refine ⟨fun c2 => ?_, fun _ => ⟨rfl, W0, F0⟩⟩
    rcases wr1_cases A.1 r with z | z | z
    · exact absurd z c
    · rw [z] at c2
      exact absurd c2 (by decide)
    · rw [z] at c2
      exact absurd c2 (by decide)
theorem m7_count {h : zw_H} {A : zA} (W : CW h A) : zpI 0 mX7_count [.ref 0] h (nI (cnt A.1)) := zcI_of rfl pn_X7 (fun _ => Nat.le_of_ble_eq_true rfl) rfl (rX7_count_0 ⟨W.2.2.2.2.2.2.1, rfl⟩)
theorem m7_countWith {h : zw_H} {A : zA} {k : Int32} (W : CW h A) : zpI 0 mX7_countWith [.ref 0, .int k] h (oCW A.1 k) := by
  unfold oCW
  refine zcI_of rfl pn_X7 (fun _ => Nat.le_of_ble_eq_true rfl) rfl (rX7_countWith_0 ⟨fun c => ⟨?_, rfl⟩, fun c => ⟨fun c2 => ?_, fun c2 => ⟨?_, rfl⟩⟩⟩)
  · rw [out16 (Or.inl c)]
  · obtain ⟨b, hb⟩ := in16 c c2
    obtain ⟨b1, b2, rfl⟩ := r16_some hb
    rw [hb]
    exact ⟨b, rfl, by omega, W.2.2.2.2.2.2.2.2 b b2, rfl⟩
  · rw [out16 (Or.inr c2)]
theorem m7_below {h : zw_H} {A : zA} {r s : Int32} (W : CW h A) : zpI 2 mX7_below [.ref 0, .int r, .int s] h (gd (wr2 A.1 r s) (bI (le A.1.1 (rgt A.1 r) (rgt A.1 s)))) := by
  have n1 := W.1.1.1
  have n2 := W.1.1.2.1
  refine zcI_of rfl pn_X7 (fun _ => Nat.le_of_ble_eq_true rfl) rfl (rX7_below_0 (ca (c_X7_faultOf W) ⟨fun c => ?_, fun c => ?_⟩))
  · rw [fo_1] at c
    obtain ⟨d1, d2⟩ := wr2_0 c
    obtain ⟨a, a1, a2, a3, a4, a5⟩ := W.reg d1
    obtain ⟨b, b1, b2, b3, b4, b5⟩ := W.reg d2
    have m1 := km_lt n1 n2 a4
    have m2 := km_lt n1 n2 b4
    rw [gd_0 c]
    refine ⟨a, a2, a1, b, b2, b1, ?_⟩
    rw [a5, b5]
    exact ca (c_X7_isBelow h (by omega) (by omega)) ⟨fun c => ⟨c.symm, rfl⟩, fun c => ⟨(bI_t (bI_yes c)).symm, rfl⟩⟩
  · rw [fo_1] at c ⊢
    exact ⟨(gd_f c).symm, rfl⟩
