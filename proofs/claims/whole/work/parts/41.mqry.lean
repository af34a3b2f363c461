/-- the partition with an index -/
def nth (s : zS) (k : Nat) : Nat := (fs (fun g => adm s g && decide (ix s g = k)) 0 (kN s.1)).getD 0
theorem nth_some {s : zS} {k : Nat} (hk : k < cnt s) : fs (fun g => adm s g && decide (ix s g = k)) 0 (kN s.1) = some (nth s k) := by
  unfold nth
  cases hx : fs (fun g => adm s g && decide (ix s g = k)) 0 (kN s.1) with
  | some b => rfl
  | none =>
    obtain ⟨i, i1, i2, i3⟩ := fb_ct_kth hk
    have := fs_none.mp hx i (by omega) (by omega)
    rw [i2] at this
    have i3 : ix s i = k := i3
    simp [i3] at this
theorem nth_ok {s : zS} {k : Nat} (hk : k < cnt s) : nth s k < kN s.1 ∧ adm s (nth s k) = true ∧ ix s (nth s k) = k := by
  obtain ⟨_, h2, h3, _⟩ := fs_some (nth_some hk)
  rw [Bool.and_eq_true, decide_eq_true_eq] at h3
  exact ⟨by omega, h3.1, h3.2⟩
theorem nth_ix {s : zS} {g : Nat} (hg : g < kN s.1) (ha : adm s g = true) : ix s g < cnt s ∧ nth s (ix s g) = g := by
  have h1 : ix s g < cnt s := by
    have := fb_ct_mono (adm s) (show g + 1 ≤ kN s.1 by omega)
    rw [fb_ct_succ, if_pos ha] at this
    exact this
  obtain ⟨x1, x2, x3⟩ := nth_ok h1
  exact ⟨h1, fb_ct_kth_one x2 ha x3⟩
theorem cnt_le (s : zS) : cnt s ≤ kN s.1 := fb_ct_le _ _
theorem c_X8_admittedAt {h : zw_H} {s : zS} {k : Nat} (T : RT h s.1) (A : RA h s) (hk : k < cnt s) : zpI 1 mX8_admittedAt [.ref 56, .int (nI k)] h (nI (nth s k)) := by
  obtain ⟨n1, n2, h3, h4, h5, h6⟩ := id T
  have hN := (kN_le n1 n2).1
  have hc := cnt_le s
  refine zcI_of rfl pn_X8 (fun _ => Nat.le_of_ble_eq_true rfl) rfl (rX8_admittedAt_0 ?_)
  generalize hb : nth s k = b
  have e0 : fs (fun g => adm s g && decide (ix s g = k)) 0 (kN s.1 - 0) = some b := by rw [← hb]; exact nth_some hk
  refine lp_up (P := fun g => fs (fun g => adm s g && decide (ix s g = k)) g (kN s.1 - g) = some b → zwI 1 mX8_admittedAt (fun x h' => x = nI b ∧ h' = h) 2 [(0, .ref 56), (1, .int (nI k)), (2, .int (nI g))] [] h) (N := kN s.1) ?_ ?_ 0 (by omega) e0
  · intro e
    rw [fs_end (Nat.le_refl _)] at e
    cases e
  · intro g hg ih e
    have hi := ix_le s g
    rw [fs_step hg] at e
    refine rX8_admittedAt_2 ⟨fun c => ?_, fun _ => ca (c_X8_isAdmitted T A hg) ⟨fun c => ?_, fun c => ⟨g, rfl, by omega, fun c2 => ?_, fun c2 => ?_⟩⟩⟩
    · rw [h4] at c
      have := zle c
      omega
    · rw [nI_1]
      refine ih ?_
      rw [if_neg] at e
      · exact e
      · intro z
        rw [Bool.and_eq_true] at z
        exact bI_0.mp c z.1
    · rw [nI_1]
      refine ih ?_
      rw [if_neg] at e
      · exact e
      · intro z
        rw [Bool.and_eq_true, decide_eq_true_eq] at z
        rw [A.1 g hg, if_pos z.1, z.2] at c2
        exact c2 rfl
    · rw [A.1 g hg, if_pos (bI_yes c)] at c2
      rw [if_pos] at e
      · cases e
        exact ⟨rfl, rfl⟩
      · rw [Bool.and_eq_true, decide_eq_true_eq]
        exact ⟨bI_yes c, zeq c2⟩
def oU (A : zA) (t k : Int32) : Int32 × zA := oT A (if (ri (cnt A.1) k).isSome = true then 0 else -1) t (nth A.1 ((ri (cnt A.1) k).getD 0))
theorem iR_in0 {x : Int32} {n : Nat} (hn : n < 2147483648) : iR x n ↔ ¬ x < 0 ∧ ¬ nI n - 1 < x := by
  rcases Nat.eq_zero_or_pos n with hz | hp
  · subst hz
    constructor
    · rintro ⟨k, hk, _⟩
      omega
    · rintro ⟨a, b⟩
      rw [Int32.lt_iff_toInt_lt] at a b
      have e1 : (nI 0 - 1).toInt = -1 := by decide
      have e2 : (0 : Int32).toInt = 0 := by decide
      omega
  · exact iR_in hp hn (by rw [show n = (n - 1) + 1 by omega, nI_pred]; rfl)
theorem m_unrank {h : zw_H} {A : zA} {t k : Int32} (W : RW h A) : zcI 2 mX8_unrank [.ref 56, .int t, .int k] h (opR h (oU A t k)) := by
  have hN := (kN_le W.2.1.1 W.2.1.2.1).1
  have hc := cnt_le A.1
  have h8 := W.2.2.2.1.2
  have hin := iR_in0 (x := k) (n := cnt A.1) (by omega)
  refine zcI_of rfl pn_X8 (fun _ => Nat.le_of_ble_eq_true rfl) rfl (rX8_unrank_0 (ca (c_X8_isRegister h t) ⟨fun c => ?_, fun c => ca (c_X8_in h _ _ _) ⟨fun c2 => ?_, fun c2 => ?_⟩⟩))
  · unfold oU
    rw [oT_bad (bI_0.mp c)]
    exact W.same _
  · have z := bI_yes c2
    rw [h8] at z
    obtain ⟨k', k1, rfl⟩ := hin.mpr z
    obtain ⟨t', t1, rfl⟩ := bI_yes c
    unfold oU
    rw [ri_nI k1 (by omega), if_pos (show (some k').isSome = true from rfl)]
    exact ca (c_X8_admittedAt W.2.1 W.2.2.2.1 k1) (m_puts W Fr.rf t1 (nth_ok k1).1)
  · unfold oU
    have z := bI_0.mp c2
    rw [h8] at z
    rw [(ri_none (by omega)).mpr (fun y => z (hin.mp y)), if_neg (by decide), oT_f (bI_yes c) (by decide)]
    exact W.same _
/-- the last one that is -/
def ls (c : Nat → Bool) : Nat → Option Nat
  | 0 => none
  | m + 1 => if c m then some m else ls c m
theorem ls_some {c : Nat → Bool} : ∀ {m b : Nat}, ls c m = some b → b < m ∧ c b = true ∧ ∀ i, b < i → i < m → c i = false
  | 0, b, h => by cases h
  | m + 1, b, h => by
    rw [ls] at h
    by_cases hc : c m = true
    · rw [if_pos hc] at h
      cases h
      exact ⟨Nat.lt_succ_self _, hc, fun i h1 h2 => absurd h1 (by omega)⟩
    · rw [if_neg hc] at h
      obtain ⟨h1, h2, h3⟩ := ls_some h
      refine ⟨by omega, h2, fun i h5 h6 => ?_⟩
      by_cases hi : i = m
      · subst hi
        exact Bool.eq_false_iff.mpr hc
      · exact h3 i h5 (by omega)
theorem ls_none {c : Nat → Bool} : ∀ {m : Nat}, ls c m = none ↔ ∀ i, i < m → c i = false
  | 0 => ⟨fun _ i h2 => absurd h2 (by omega), fun _ => rfl⟩
  | m + 1 => by
    rw [ls]
    by_cases hc : c m = true
    · rw [if_pos hc]
      exact ⟨fun h => (by cases h), fun h => (by rw [h m (by omega)] at hc; cases hc)⟩
    · rw [if_neg hc, ls_none]
      refine ⟨fun h i h2 => ?_, fun h i h2 => h i (by omega)⟩
      by_cases hi : i = m
      · subst hi
        exact Bool.eq_false_iff.mpr hc
      · exact h i (by omega)
/-- the nearest admitted one behind, or ahead -/
def nx (s : zS) (g : Nat) : Option Nat := fs (adm s) (g + 1) (kN s.1 - (g + 1))
def pv (s : zS) (g : Nat) : Option Nat := ls (adm s) g
theorem c_X8_nearest1 {h : zw_H} {s : zS} {g : Nat} (T : RT h s.1) (A : RA h s) (hg : g < kN s.1) : zpI 1 mX8_nearest [.ref 56, .int (nI g), .int 1] h (enc1 (nx s g)) := by
  obtain ⟨n1, n2, h3, h4, h5, h6⟩ := id T
  have hN := (kN_le n1 n2).1
  refine zcI_of rfl pn_X8 (fun _ => Nat.le_of_ble_eq_true rfl) rfl (rX8_nearest_0 ?_)
  rw [nI_1]
  unfold nx
  refine lp_up (P := fun g => zwI 1 mX8_nearest (fun x h' => x = enc1 (fs (adm s) g (kN s.1 - g)) ∧ h' = h) 4 [(0, .ref 56), (2, .int 1), (3, .int (nI g))] [] h) (N := kN s.1) ?_ ?_ (g + 1) (by omega)
  · have no : ¬ (¬ nI (kN s.1) < 0 ∧ ¬ nI (kN s.1) - 1 < nI (kN s.1)) := fun z => by
      obtain ⟨k, k1, k2⟩ := (iR_in0 (by omega)).mpr z
      have := zeq k2
      omega
    refine rX8_nearest_4 (ca (c_X8_in h _ _ _) ⟨fun _ => ca (c_X8_in h _ _ _) ⟨fun _ => ⟨?_, rfl⟩, fun c => ?_⟩, fun c => ?_⟩)
    · rw [fs_end (Nat.le_refl _)]
      rfl
    · have := bI_yes c
      rw [h4] at this
      exact absurd this no
    · have := bI_yes c
      rw [h4] at this
      exact absurd this no
  · intro g hg ih
    have yes : bI (¬ nI g < 0 ∧ ¬ h.1 56 7 - 1 < nI g) = 1 := bI_t (by rw [h4]; exact (iR_in0 (by omega)).mp ⟨g, hg, rfl⟩)
    refine rX8_nearest_4 (ca (c_X8_in h _ _ _) ⟨fun c => ?_, fun _ => ca (c_X8_isAdmitted T A hg) ⟨fun c => ca (c_X8_in h _ _ _) ⟨fun c2 => ?_, fun c2 => ⟨?_, rfl⟩⟩, fun c => ?_⟩⟩)
    · rw [yes] at c
      exact absurd c (by decide)
    · rw [yes] at c2
      exact absurd c2 (by decide)
    · rw [fs_step hg, if_pos (bI_yes c)]
      rfl
    · rw [fs_step hg, if_neg (bI_0.mp c)] 
      rw [nI_1]
      exact ih
theorem c_X8_nearest0 {h : zw_H} {s : zS} {g : Nat} (T : RT h s.1) (A : RA h s) (hg : g < kN s.1) : zpI 1 mX8_nearest [.ref 56, .int (nI g), .int (-1)] h (enc1 (pv s g)) := by
  obtain ⟨n1, n2, h3, h4, h5, h6⟩ := id T
  have hN := (kN_le n1 n2).1
  refine zcI_of rfl pn_X8 (fun _ => Nat.le_of_ble_eq_true rfl) rfl (rX8_nearest_0 ?_)
  unfold pv
  induction g with
  | zero =>
    have no : ¬ (¬ (nI 0 + -1) < 0 ∧ ¬ nI (kN s.1) - 1 < (nI 0 + -1)) := fun z => z.1 (by decide)
    refine rX8_nearest_4 (ca (c_X8_in h _ _ _) ⟨fun _ => ca (c_X8_in h _ _ _) ⟨fun _ => ⟨rfl, rfl⟩, fun c => ?_⟩, fun c => ?_⟩)
    · have := bI_yes c
      rw [h4] at this
      exact absurd this no
    · have := bI_yes c
      rw [h4] at this
      exact absurd this no
  | succ g ih =>
    have hg' : g < kN s.1 := by omega
    have ih := ih hg'
    rw [pk_m1]
    have yes : bI (¬ nI g < 0 ∧ ¬ h.1 56 7 - 1 < nI g) = 1 := bI_t (by rw [h4]; exact (iR_in0 (by omega)).mp ⟨g, hg', rfl⟩)
    refine rX8_nearest_4 (ca (c_X8_in h _ _ _) ⟨fun c => ?_, fun _ => ca (c_X8_isAdmitted T A hg') ⟨fun c => ca (c_X8_in h _ _ _) ⟨fun c2 => ?_, fun c2 => ⟨?_, rfl⟩⟩, fun c => ?_⟩⟩)
    · rw [yes] at c
      exact absurd c (by decide)
    · rw [yes] at c2
      exact absurd c2 (by decide)
    · rw [ls, if_pos (bI_yes c)]
      rfl
    · rw [ls, if_neg (bI_0.mp c)]
      exact ih
/-- a step to an admitted partition -/
def oN (A : zA) (r : Int32) (o : Option Nat) : Int32 × zA := if wr1 A.1 r = 0 then ((match o with | none => -9 | some g => nI (ix A.1 g)), (oT A 0 r (o.getD (rgt A.1 r))).2) else (wr1 A.1 r, A)
theorem m_steps {h : zw_H} {A : zA} {r v : Int32} {o : Option Nat} (W : RW h A) (near : wr1 A.1 r = 0 → zpI 1 mX8_nearest [.ref 56, .int (nI (rgt A.1 r)), .int v] h (enc1 o)) (ho : ∀ g, o = some g → g < kN A.1.1 ∧ adm A.1 g = true) : zcI 3 mX8_steps [.ref 56, .int r, .int v] h (opR h (oN A r o)) := by
  have hN := (kN_le W.2.1.1 W.2.1.2.1).1
  unfold oN
  refine zcI_of rfl pn_X8 (fun _ => Nat.le_of_ble_eq_true rfl) rfl (rX8_steps_0 (ca (c_X8_wrong W.1.1 W.2.2.1) ⟨fun c => ?_, fun c => ?_⟩))
  · obtain ⟨a, a1, a2, a3, a4⟩ := rgt_ok W.1.1 c
    have ea : (Value.int r) = .int (nI a) := by rw [← a2]
    rw [if_pos c]
    refine ca (c_X8_heldR W.1.1 W.2.2.1 c) (ca (near c) ⟨fun c2 => ?_, fun c2 => ?_⟩)
    · cases o with
      | none => exact absurd rfl c2
      | some g =>
        obtain ⟨g1, g2⟩ := ho g rfl
        rw [ea, a2]
        refine cr (c_X8_puts W a1 g1) (fun x h2 r2 => ⟨fun _ => ⟨g, rfl, by omega, ?_, ?_, r2.2.2⟩, fun c3 => absurd c3 (nI_9 (by omega))⟩)
        · rw [r2.2.1.2.2.2.1.1 g g1]
          exact if_pos g2
        · show RW h2 (oT A 0 (nI a) g).2
          rw [oT_0 a1]
          exact r2.2.1
    · cases o with
      | some g => exact absurd c2 (nI_9 (by have := (ho g rfl).1; omega))
      | none =>
        refine ca (c_X8_heldR W.1.1 W.2.2.1 c) ?_
        rw [ea]
        refine cr (c_X8_puts W a1 a4) (fun x h2 r2 => ⟨fun c3 => absurd rfl c3, fun _ => ⟨rfl, ?_, r2.2.2⟩⟩)
        show RW h2 (oT A 0 r (rgt A.1 r)).2
        have e1 : oT A 0 r (rgt A.1 r) = oT A 0 (nI a) (rgt A.1 r) := by rw [← a2]
        rw [e1, oT_0 a1]
        exact r2.2.1
  · rw [if_neg c]
    exact W.same _
theorem m_next {h : zw_H} {A : zA} {r : Int32} (W : RW h A) : zcI 4 mX8_next [.ref 56, .int r] h (opR h (oN A r (nx A.1 (rgt A.1 r)))) := by
  refine zcI_of rfl pn_X8 (fun _ => Nat.le_of_ble_eq_true rfl) rfl (rX8_next_0 (cr (m_steps W (fun c => ?_) (fun g z => ?_)) (fun _ _ z => z)))
  · obtain ⟨a, a1, a2, a3, a4⟩ := rgt_ok W.1.1 c
    exact c_X8_nearest1 W.2.1 W.2.2.2.1 a4
  · have := fs_some z
    exact ⟨by omega, this.2.2.1⟩
theorem m_previous {h : zw_H} {A : zA} {r : Int32} (W : RW h A) : zcI 4 mX8_previous [.ref 56, .int r] h (opR h (oN A r (pv A.1 (rgt A.1 r)))) := by
  refine zcI_of rfl pn_X8 (fun _ => Nat.le_of_ble_eq_true rfl) rfl (rX8_previous_0 (cr (m_steps W (fun c => ?_) (fun g z => ?_)) (fun _ _ z => z)))
  · obtain ⟨a, a1, a2, a3, a4⟩ := rgt_ok W.1.1 c
    exact c_X8_nearest0 W.2.1 W.2.2.2.1 a4
  · have := ls_some z
    refine ⟨?_, this.2.1⟩
    have hr : rgt A.1 r < kN A.1.1 := by
      unfold rgt
      have hN := (kN_le W.2.1.1 W.2.1.2.1).2
      cases hx : ri 8 r with
      | none => exact hN
      | some a =>
        dsimp only
        cases hy : A.1.2.2.2.2.2.2 a with
        | none => exact hN
        | some b => exact W.1.1.2.2.2.2.2.2.2 a b (ri_some hx).1 hy
    omega
/-- the 15 bits that are drawn -/
def dk (x : Int32) : Nat := ((((Int32.toUInt32 ((x * (1103515245 : Int32)) + (12345 : Int32)) >>> (Int32.toUInt32 (16 : Int32) &&& Int32.toUInt32 (31 : Int32))).toInt32) &&& (32767 : Int32))).toInt.toNat
theorem and_15 (y : Int32) : ∃ n, n < 32768 ∧ y &&& (32767 : Int32) = nI n := by
  have e : y = nI y.toBitVec.toNat := by
    apply Int32.toBitVec_inj.mp
    show y.toBitVec = BitVec.ofNat 32 y.toBitVec.toNat
    rw [BitVec.ofNat_toNat, BitVec.setWidth_eq]
  refine ⟨y.toBitVec.toNat % 2 ^ 15, Nat.mod_lt _ (by decide), ?_⟩
  rw [← fa_mask, ← e]
  rfl
theorem dk_ok (x : Int32) : dk x < 32768 ∧ (((Int32.toUInt32 ((x * (1103515245 : Int32)) + (12345 : Int32)) >>> (Int32.toUInt32 (16 : Int32) &&& Int32.toUInt32 (31 : Int32))).toInt32) &&& (32767 : Int32)) = nI (dk x) := by
  unfold dk
  obtain ⟨n, n1, n2⟩ := and_15 ((Int32.toUInt32 ((x * (1103515245 : Int32)) + (12345 : Int32)) >>> (Int32.toUInt32 (16 : Int32) &&& Int32.toUInt32 (31 : Int32))).toInt32)
  rw [n2, nI_toInt (by omega)]
  exact ⟨n1, rfl⟩
def oD (A : zA) (t x : Int32) : Int32 × zA := match ri 8 t with
  | none => (-1, A)
  | some _ => if cnt A.1 = 0 then (-3, A) else (nI (dk x % cnt A.1), (oT A 0 t (nth A.1 (dk x % cnt A.1))).2)
theorem m_draw {h : zw_H} {A : zA} {t x : Int32} (W : RW h A) : zcI 2 mX8_draw [.ref 56, .int t, .int x] h (opR h (oD A t x)) := by
  have hN := (kN_le W.2.1.1 W.2.1.2.1).1
  have hc := cnt_le A.1
  have h8 := W.2.2.2.1.2
  obtain ⟨d1, d2⟩ := dk_ok x
  refine zcI_of rfl pn_X8 (fun _ => Nat.le_of_ble_eq_true rfl) rfl (rX8_draw_0 (ca (c_X8_isRegister h t) ⟨fun c => ⟨fun c2 => ?_, fun c2 => ?_⟩, fun c => ?_⟩))
  · rw [h8] at c2
    have hp : cnt A.1 ≠ 0 := fun z => c2 (by rw [z]; rfl)
    obtain ⟨t', t1, rfl⟩ := bI_yes c
    have hm : dk x % cnt A.1 < cnt A.1 := Nat.mod_lt _ (by omega)
    have e : oD A (nI t') x = (nI (dk x % cnt A.1), (oT A 0 (nI t') (nth A.1 (dk x % cnt A.1))).2) := by
      unfold oD
      rw [ri_nI t1 (by omega)]
      dsimp only
      rw [if_neg hp]
    rw [e, h8, d2, pk_rem (by omega) (by omega) (by omega)]
    refine ⟨c2, ca (c_X8_admittedAt W.2.1 W.2.2.2.1 hm) (cr (c_X8_puts W t1 (nth_ok hm).1) (fun y h2 r2 => ⟨rfl, ?_, r2.2.2⟩))⟩
    rw [oT_0 t1]
    exact r2.2.1
  · rw [h8] at c2
    obtain ⟨t', t1, rfl⟩ := bI_yes c
    unfold oD
    rw [ri_nI t1 (by omega)]
    dsimp only
    rw [if_pos (zeq (b := 0) c2)]
    exact W.same _
  · unfold oD
    rw [(ri_none (by omega)).mpr (bI_0.mp c)]
    exact W.same _
