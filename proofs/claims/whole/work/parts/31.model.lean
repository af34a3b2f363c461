/-- the reference's table of partitions of n elements -/
def RT (h : zw_H) (n : Nat) : Prop := 1 ≤ n ∧ n ≤ 6 ∧ h.1 57 0 = nI n ∧ h.1 56 7 = nI (kN n) ∧ (∀ g, g < kN n → h.1 60 g = nI (kB n g)) ∧ ∀ g e, g < kN n → e < n → h.1 59 (6 * g + e) = nI (ks n g e)
theorem c_X8_at {h : zw_H} {n g e : Nat} (T : RT h n) (hg : g < kN n) (he : e < n) : zpI 0 mX8_at [.ref 56, .int (nI g), .int (nI e)] h (nI (ks n g e)) := by
  obtain ⟨h1, h2, h3, h4, h5, h6⟩ := T
  have hN := (kN_le h1 h2).1
  refine zcI_of rfl pn_X8 (fun _ => Nat.le_of_ble_eq_true rfl) rfl ?_
  exact rX8_at_0 ⟨6 * g + e, by rw [show (6 : Int32) = nI 6 from rfl, pk_mul, nI_add], by omega, h6 g e hg he, rfl⟩
theorem c_X8_rank {h : zw_H} {n g : Nat} (T : RT h n) (hg : g < kN n) : zpI 0 mX8_rank [.ref 56, .int (nI g)] h (nI (n - kB n g)) := by
  obtain ⟨h1, h2, h3, h4, h5, h6⟩ := T
  have hN := (kN_le h1 h2).1
  refine zcI_of rfl pn_X8 (fun _ => Nat.le_of_ble_eq_true rfl) rfl ?_
  refine rX8_rank_0 ⟨g, rfl, by omega, ?_, rfl⟩
  rw [h3, h5 g hg, pk_sub (kB_le h1 h2 hg).2]
theorem c_X8_sizeOf {h : zw_H} {n g b : Nat} (T : RT h n) (hg : g < kN n) (hb : b < 100) : zpI 1 mX8_sizeOf [.ref 56, .int (nI g), .int (nI b)] h (nI (kz n g b)) := by
  obtain ⟨h1, h2, h3, h4, h5, h6⟩ := id T
  refine zcI_of rfl pn_X8 (fun _ => Nat.le_of_ble_eq_true rfl) rfl (rX8_sizeOf_0 ?_)
  generalize hr : nI (kz n g b) = r
  refine lp_up (P := fun e => zwI 1 mX8_sizeOf (fun x h' => x = r ∧ h' = h) 5 [(0, .ref 56), (1, .int (nI g)), (2, .int (nI b)), (3, .int (nI (fb_ct (fun e => decide (ks n g e = b)) e))), (4, .int (nI e))] [] h) (N := n) ?_ ?_ 0 (by omega)
  · refine rX8_sizeOf_5 ⟨fun _ => ⟨hr, rfl⟩, fun c => absurd (by rw [h3]; exact nI_le (Nat.le_refl n) (by omega)) c⟩
  · intro e he ih
    have hk := ks_lt h1 h2 hg he
    refine rX8_sizeOf_5 ⟨fun c => ?_, fun _ => ca (c_X8_at T hg he) ⟨fun c => ?_, fun c => ?_⟩⟩
    · rw [h3] at c
      have := zle c
      omega
    · rw [fb_ct_succ, if_neg (by simpa using zne c), Nat.add_zero] at ih
      rw [nI_1, Int32.add_zero]
      exact ih
    · rw [fb_ct_succ, if_pos (by simpa using zeq c)] at ih
      rw [nI_1, nI_1]
      exact ih
theorem kz_le (n g b : Nat) : kz n g b ≤ n := fb_ct_le _ n
/-- the side, as the reference keeps it -/
def kcs (p q : Nat) (sd : Nat) : Int32 := if sd = 1 then nI p else if sd = 2 then nI q else -9
theorem kc_2 (n t p q : Nat) : ∀ e, (kc n t p q e).2 ≤ 2
  | 0 => Nat.zero_le 2
  | e + 1 => by
    have := kc_2 n t p q e
    rw [kc]
    repeat' split
    all_goals first | exact this | exact Nat.le_refl 2 | exact Nat.le_succ 1
theorem kc_1 (n t p q : Nat) : ∀ e, (kc n t p q e).1 ≤ e
  | 0 => Nat.le_refl 0
  | e + 1 => by
    have := kc_1 n t p q e
    rw [kc]
    repeat' split
    all_goals first | exact Nat.le_succ_of_le this | exact Nat.succ_le_succ this
theorem c_X8_areCrossing {h : zw_H} {n g p q : Nat} (T : RT h n) (hg : g < kN n) (hp : p < 100) (hq : q < 100) (hpq : p ≠ q) : zpI 1 mX8_areCrossing [.ref 56, .int (nI g), .int (nI p), .int (nI q)] h (bI (kx n g p q = true)) := by
  obtain ⟨h1, h2, h3, h4, h5, h6⟩ := id T
  refine zcI_of rfl pn_X8 (fun _ => Nat.le_of_ble_eq_true rfl) rfl (rX8_areCrossing_0 ?_)
  generalize hr : bI (kx n g p q = true) = r
  refine lp_up (P := fun e => zwI 1 mX8_areCrossing (fun x h' => x = r ∧ h' = h) 10 [(0, .ref 56), (1, .int (nI g)), (2, .int (nI p)), (3, .int (nI q)), (4, .int (nI (kc n (kt n g) p q e).1)), (5, .int (kcs p q (kc n (kt n g) p q e).2)), (6, .int (nI e))] [] h) (N := n) ?_ ?_ 0 (by omega)
  · have hle := kc_1 n (kt n g) p q n
    refine rX8_areCrossing_10 ⟨fun _ => ⟨fun c => ⟨?_, rfl⟩, fun c => ⟨?_, rfl⟩⟩, fun c => absurd (by rw [h3]; exact nI_le (Nat.le_refl n) (by omega)) c⟩
    · have := zlt (b := 4) c
      rw [← hr, bI_f]
      simp only [kx, decide_eq_true_eq]
      omega
    · have := znlt (b := 4) c
      rw [← hr, bI_t]
      simp only [kx, decide_eq_true_eq]
      omega
  · intro e he ih
    have hk := ks_lt h1 h2 hg he
    have hs2 := kc_2 n (kt n g) p q e
    refine rX8_areCrossing_10 ⟨fun c => ?_, fun _ => ca (c_X8_at T hg he) ⟨fun c => ⟨fun c2 => ?_, fun c2 => ?_⟩, fun c => ⟨fun c2 => ?_, fun c2 => ⟨fun c3 => ?_, fun c3 => ?_⟩⟩⟩⟩
    · rw [h3] at c
      have := zle c
      omega
    · have e1 : kd n (kt n g) e = p := zeq (a := ks n g e) c
      have e2 : (kc n (kt n g) p q e).2 = 1 := by
        rcases (show (kc n (kt n g) p q e).2 = 0 ∨ (kc n (kt n g) p q e).2 = 1 ∨ (kc n (kt n g) p q e).2 = 2 by omega) with e3 | e3 | e3
        · rw [e3] at c2; exact absurd c2 (nI_9 (by omega))
        · exact e3
        · rw [e3] at c2
          have : ks n g e = q := zeq c2
          exact absurd (e1.symm.trans this) hpq
      rw [kc, if_pos e1, if_pos e2] at ih
      rw [nI_1]
      exact ih
    · have e1 : kd n (kt n g) e = p := zeq (a := ks n g e) c
      have e2 : ¬ (kc n (kt n g) p q e).2 = 1 := by
        intro e3
        rw [e3] at c2
        exact c2 c
      rw [kc, if_pos e1, if_neg e2] at ih
      rw [nI_1, nI_1, c]
      exact ih
    · have e1 : ¬ kd n (kt n g) e = p := zne (a := ks n g e) c
      have e2 : ¬ kd n (kt n g) e = q := zne (a := ks n g e) c2
      rw [kc, if_neg e1, if_neg e2] at ih
      rw [nI_1]
      exact ih
    · have e1 : ¬ kd n (kt n g) e = p := zne (a := ks n g e) c
      have e0 : kd n (kt n g) e = q := zeq (a := ks n g e) c2
      have e2 : (kc n (kt n g) p q e).2 = 2 := by
        rcases (show (kc n (kt n g) p q e).2 = 0 ∨ (kc n (kt n g) p q e).2 = 1 ∨ (kc n (kt n g) p q e).2 = 2 by omega) with e3 | e3 | e3
        · rw [e3] at c3; exact absurd c3 (nI_9 (by omega))
        · rw [e3] at c3
          have : ks n g e = p := zeq c3
          exact absurd this e1
        · exact e3
      rw [kc, if_neg e1, if_pos e0, if_pos e2] at ih
      rw [nI_1]
      exact ih
    · have e1 : ¬ kd n (kt n g) e = p := zne (a := ks n g e) c
      have e0 : kd n (kt n g) e = q := zeq (a := ks n g e) c2
      have e2 : ¬ (kc n (kt n g) p q e).2 = 2 := by
        intro e3
        rw [e3] at c3
        exact c3 c2
      rw [kc, if_neg e1, if_pos e0, if_neg e2] at ih
      rw [nI_1, nI_1, c2]
      exact ih
theorem c_X8_firstCrossing {h : zw_H} {n g : Nat} (T : RT h n) (hg : g < kN n) : zpI 2 mX8_firstCrossing [.ref 56, .int (nI g)] h (enc2 (kF n g)) := by
  obtain ⟨h1, h2, h3, h4, h5, h6⟩ := id T
  have hN := (kN_le h1 h2).1
  have hB := kB_le h1 h2 hg
  have e60 := h5 g hg
  refine zcI_of rfl pn_X8 (fun _ => Nat.le_of_ble_eq_true rfl) rfl (rX8_firstCrossing_0 ?_)
  refine lp_up (P := fun p => zwI 2 mX8_firstCrossing (fun x h' => x = enc2 (fs2 (kx n g) (kB n g) p (kB n g - p)) ∧ h' = h) 2 [(0, .ref 56), (1, .int (nI g)), (2, .int (nI p))] [] h) (N := kB n g) ?_ ?_ 0 (by omega)
  · refine rX8_firstCrossing_2 ⟨g, rfl, by omega, fun _ => ⟨by rw [fs2_end (Nat.le_refl _)]; rfl, rfl⟩, fun c => absurd (by rw [e60]; exact nI_le (Nat.le_refl _) (by omega)) c⟩
  · intro p hp ih
    refine rX8_firstCrossing_2 ⟨g, rfl, by omega, fun c => ?_, fun _ => ?_⟩
    · rw [e60] at c
      have := zle c
      omega
    · rw [fs2_step hp, nI_1]
      refine lp_up (P := fun q => p < q → zwI 2 mX8_firstCrossing (fun x h' => x = enc2 (match fs (kx n g p) q (kB n g - q) with | some q => some (p, q) | none => fs2 (kx n g) (kB n g) (p + 1) (kB n g - (p + 1))) ∧ h' = h) 16 [(0, .ref 56), (1, .int (nI g)), (2, .int (nI p)), (3, .int (nI q))] [] h) (N := kB n g) ?_ ?_ (p + 1) (by omega) (by omega)
      · intro _
        rw [fs_end (Nat.le_refl _)]
        refine rX8_firstCrossing_16 ⟨g, rfl, by omega, fun _ => ?_, fun c => absurd (by rw [e60]; exact nI_le (Nat.le_refl _) (by omega)) c⟩
        rw [nI_1]
        exact ih
      · intro q hq ih2 hpq
        have ih2 := ih2 (by omega)
        refine rX8_firstCrossing_16 ⟨g, rfl, by omega, fun c => ?_, fun _ => ca (c_X8_areCrossing T hg (by omega) (by omega) (by omega)) ⟨fun c => ?_, fun c => ?_⟩⟩
        · rw [e60] at c
          have := zle c
          omega
        · rw [fs_step hq, if_neg (bI_0.mp c)]
          rw [nI_1]
          exact ih2
        · have hc : kx n g p q = true := by
            by_cases hx : kx n g p q = true
            · exact hx
            · exact absurd (bI_f hx) c
          refine ⟨?_, rfl⟩
          rw [fs_step hq, if_pos hc, show (10 : Int32) = nI 10 from rfl, pk_mul, nI_add]
          rfl
theorem c_X8_firstSize {h : zw_H} {n g sz : Nat} (T : RT h n) (hg : g < kN n) (hz : h.1 57 1 = nI sz) (hz2 : sz < 128) : zpI 2 mX8_firstSize [.ref 56, .int (nI g)] h (enc1 (kS sz n g)) := by
  obtain ⟨h1, h2, h3, h4, h5, h6⟩ := id T
  have hN := (kN_le h1 h2).1
  have hB := kB_le h1 h2 hg
  have e60 := h5 g hg
  refine zcI_of rfl pn_X8 (fun _ => Nat.le_of_ble_eq_true rfl) rfl (rX8_firstSize_0 ?_)
  refine lp_up (P := fun b => zwI 2 mX8_firstSize (fun x h' => x = enc1 (fs (fun b => !(sz.testBit (kz n g b))) b (kB n g - b)) ∧ h' = h) 2 [(0, .ref 56), (1, .int (nI g)), (2, .int (nI b))] [] h) (N := kB n g) ?_ ?_ 0 (by omega)
  · refine rX8_firstSize_2 ⟨g, rfl, by omega, fun _ => ⟨by rw [fs_end (Nat.le_refl _)]; rfl, rfl⟩, fun c => absurd (by rw [e60]; exact nI_le (Nat.le_refl _) (by omega)) c⟩
  · intro b hb ih
    have hk := kz_le n g b
    refine rX8_firstSize_2 ⟨g, rfl, by omega, fun c => ?_, fun _ => ca (c_X8_sizeOf T hg (by omega)) ⟨fun c => ?_, fun c => ?_⟩⟩
    · rw [e60] at c
      have := zle c
      omega
    · rw [hz] at c
      have hc : sz.testBit (kz n g b) = true := by
        cases hx : sz.testBit (kz n g b) with
        | true => rfl
        | false => exact absurd ((zbit0 (by omega) (by omega)).mpr hx) c
      rw [fs_step hb, hc, if_neg (by decide), nI_1]
      exact ih
    · rw [hz] at c
      have hc := (zbit0 (by omega) (by omega)).mp c
      rw [fs_step hb, hc]
      exact ⟨rfl, rfl⟩
theorem kp_lt : ∀ i, i < 6 → ∀ j, j < 6 → i < j → kp i j < 15 := by decide +kernel
theorem zset {set i j : Nat} (hs : set < 32768) (hi : i < 6) (hj : j < 6) (hij : i < j) : (nI set &&& nI (pbit i j)) = 0 ↔ set.testBit (kp i j) = false := by
  have h1 := kp_lt i hi j hj hij
  rw [pbit, if_neg (by omega), if_pos hij]
  exact fa_bit (by omega)
theorem c_X8_firstPair {h : zw_H} {n g set : Nat} {one : Bool} {v : Int32} (T : RT h n) (hg : g < kN n) (hs : set < 32768) (hv : v = bI (one = true)) : zpI 1 mX8_firstPair [.ref 56, .int (nI g), .int (nI set), .int v] h (enc2 (kPr set one n g)) := by
  subst hv
  obtain ⟨h1, h2, h3, h4, h5, h6⟩ := id T
  refine zcI_of rfl pn_X8 (fun _ => Nat.le_of_ble_eq_true rfl) rfl (rX8_firstPair_0 ?_)
  unfold kPr
  generalize hc0 : (fun i j => set.testBit (kp i j) && (decide (ks n g i = ks n g j) == one)) = cc
  have hcc : ∀ i j, cc i j = (set.testBit (kp i j) && (decide (ks n g i = ks n g j) == one)) := fun i j => by rw [← hc0]
  refine lp_up (P := fun p => zwI 1 mX8_firstPair (fun x h' => x = enc2 (fs2 cc n p (n - p)) ∧ h' = h) 3 [(0, .ref 56), (1, .int (nI g)), (2, .int (nI set)), (3, .int (bI (one = true))), (4, .int (nI p))] [] h) (N := n) ?_ ?_ 0 (by omega)
  · refine rX8_firstPair_3 ⟨fun _ => ⟨by rw [fs2_end (Nat.le_refl _)]; rfl, rfl⟩, fun c => absurd (by rw [h3]; exact nI_le (Nat.le_refl _) (by omega)) c⟩
  · intro p hp ih
    refine rX8_firstPair_3 ⟨fun c => ?_, fun _ => ?_⟩
    · rw [h3] at c
      have := zle c
      omega
    · rw [fs2_step hp, nI_1]
      refine lp_up (P := fun q => p < q → zwI 1 mX8_firstPair (fun x h' => x = enc2 (match fs (cc p) q (n - q) with | some q => some (p, q) | none => fs2 cc n (p + 1) (n - (p + 1))) ∧ h' = h) 20 [(0, .ref 56), (1, .int (nI g)), (2, .int (nI set)), (3, .int (bI (one = true))), (4, .int (nI p)), (5, .int (nI q))] [] h) (N := n) ?_ ?_ (p + 1) (by omega) (by omega)
      · intro _
        rw [fs_end (Nat.le_refl _)]
        refine rX8_firstPair_20 ⟨fun _ => ?_, fun c => absurd (by rw [h3]; exact nI_le (Nat.le_refl _) (by omega)) c⟩
        rw [nI_1]
        exact ih
      · intro q hq ih2 hpq
        have ih2 := ih2 (by omega)
        have k1 := ks_lt h1 h2 hg hp
        have k2 := ks_lt h1 h2 hg hq
        have no : cc p q = false → zwI 1 mX8_firstPair (fun x h' => x = enc2 (match fs (cc p) q (n - q) with | some q => some (p, q) | none => fs2 cc n (p + 1) (n - (p + 1))) ∧ h' = h) 20 [(0, .ref 56), (1, .int (nI g)), (2, .int (nI set)), (3, .int (bI (one = true))), (4, .int (nI p)), (5, .int (nI q + 1))] [] h := by
          intro hc
          rw [fs_step hq, hc, if_neg (by decide), nI_1]
          exact ih2
        have yes : cc p q = true → (10 : Int32) * nI p + nI q = enc2 (match fs (cc p) q (n - q) with | some q => some (p, q) | none => fs2 cc n (p + 1) (n - (p + 1))) := by
          intro hc
          rw [fs_step hq, if_pos hc, show (10 : Int32) = nI 10 from rfl, pk_mul, nI_add]
          rfl
        have hb := zset hs (show p < 6 by omega) (show q < 6 by omega) hpq
        refine rX8_firstPair_20 ⟨fun c => ?_, fun _ => ca (c_X8_bitOf h (by omega) (by omega) (by omega)) ⟨fun c => ?_, fun c => ca (c_X8_at T hg hp) (ca (c_X8_at T hg hq) ⟨fun c2 => ⟨fun c3 => ?_, fun c3 => ?_⟩, fun c2 => ⟨fun c3 => ?_, fun c3 => ?_⟩⟩)⟩⟩
        · rw [h3] at c
          have := zle c
          omega
        · refine no ?_
          rw [hcc, hb.mp c]
          rfl
        · refine no ?_
          have c3' : one = true := by
            cases one with
            | true => rfl
            | false => exact absurd (bI_f (by decide)).symm c3
          have c2' := zne c2
          rw [hcc, c3']
          simp [c2']
        · refine ⟨yes ?_, rfl⟩
          have c3' : one = false := by
            cases one with
            | true => exact absurd (bI_0.mp c3.symm) (by simp)
            | false => rfl
          have c2' := zne c2
          have hb' : set.testBit (kp p q) = true := by
            cases hx : set.testBit (kp p q) with
            | true => rfl
            | false => exact absurd (hb.mpr hx) c
          rw [hcc, c3', hb']
          simp [c2']
        · refine no ?_
          have c3' : one = false := by
            cases one with
            | true => exact absurd (bI_t rfl).symm c3
            | false => rfl
          have c2' := zeq c2
          rw [hcc, c3']
          simp [c2']
        · refine ⟨yes ?_, rfl⟩
          have c3' : one = true := by
            cases one with
            | true => rfl
            | false =>
              have := bI_f (p := (false = true)) (by decide)
              rw [this] at c3
              exact absurd c3 (by decide)
          have c2' := zeq c2
          have hb' : set.testBit (kp p q) = true := by
            cases hx : set.testBit (kp p q) with
            | true => rfl
            | false => exact absurd (hb.mpr hx) c
          rw [hcc, c3', hb']
          simp [c2']
/-- the reference's page: the state now -/
def RP (h : zw_H) (s : zS) : Prop := h.1 57 0 = nI s.1 ∧ h.1 57 1 = nI s.2.1 ∧ h.1 57 2 = nI s.2.2.1 ∧ h.1 57 3 = nI s.2.2.2.1 ∧ h.1 57 4 = nI s.2.2.2.2.1 ∧ h.1 57 5 = nI s.2.2.2.2.2.1 ∧ ∀ r, r < 8 → h.1 57 (6 + r) = enc1 (s.2.2.2.2.2.2 r)
/-- a state that can be -/
def SV (s : zS) : Prop := 1 ≤ s.1 ∧ s.1 ≤ 6 ∧ s.2.1 < 128 ∧ s.2.2.1 < 128 ∧ s.2.2.2.1 < 32768 ∧ s.2.2.2.2.1 < 32768 ∧ s.2.2.2.2.2.1 ≤ 1 ∧ ∀ r g, r < 8 → s.2.2.2.2.2.2 r = some g → g < kN s.1
theorem c_X8_reason {h : zw_H} {s : zS} {g : Nat} (V : SV s) (T : RT h s.1) (Pg : RP h s) (hg : g < kN s.1) : zpI 3 mX8_reason [.ref 56, .int (nI g)] h (nI (rsn s g)) := by
  obtain ⟨h1, h2, h3, h4, h5, h6⟩ := id T
  obtain ⟨v1, v2, v3, v4, v5, v6, v7, v8⟩ := V
  obtain ⟨p1, p2, p3, p4, p5, p6, p7⟩ := Pg
  have hN := (kN_le h1 h2).1
  have hB := kB_le h1 h2 hg
  have e60 := h5 g hg
  have n1 : ∀ b, kS s.2.1 s.1 g = some b → b < 2147483648 := fun b hb => by have := kS_lt hb; omega
  have n3 : ∀ set one, ∀ p q, kPr set one s.1 g = some (p, q) → p < 100 ∧ q < 100 := fun set one p q hb => by have := kPr_lt hb; omega
  have n5 : ∀ p q, kF s.1 g = some (p, q) → p < 100 ∧ q < 100 := fun p q hb => by have := kF_lt hb; omega
  refine zcI_of rfl pn_X8 (fun _ => Nat.le_of_ble_eq_true rfl) rfl (rX8_reason_0 (ca (c_X8_firstSize T hg p2 v3) ⟨fun c1 => ⟨g, rfl, by omega, fun c2 => ?_, fun c2 => ?_⟩, fun c1 => ?_⟩))
  · rw [p3, e60] at c2
    have k1 := none_some.mp ((enc1_9 n1).mp c1)
    have k2 : ¬ s.2.2.1.testBit (kB s.1 g) = false := fun hx => c2 ((zbit0 (by omega) (by omega)).mpr hx)
    rw [p4]
    refine ca (c_X8_firstPair T hg v5 (one := true) (bI_t rfl).symm) ⟨fun c3 => ?_, fun c3 => ?_⟩
    · have k3 := none_some.mp ((enc2_9 (n3 _ _)).mp c3)
      rw [p5]
      refine ca (c_X8_firstPair T hg v6 (one := false) (bI_f (by decide)).symm) ⟨fun c4 => ?_, fun c4 => ?_⟩
      · have k4 := none_some.mp ((enc2_9 (n3 _ _)).mp c4)
        rw [p6]
        refine ⟨fun c5 => ⟨?_, rfl⟩, fun c5 => ca (c_X8_firstCrossing T hg) ⟨fun c6 => ⟨?_, rfl⟩, fun c6 => ⟨?_, rfl⟩⟩⟩
        · have k5 : s.2.2.2.2.2.1 ≠ 1 := zne (b := 1) c5
          rw [rsn, if_neg k1, if_neg k2, if_neg k3, if_neg k4, if_neg (fun z => k5 z.1)]
          rfl
        · have k6 := none_some.mp ((enc2_9 n5).mp c6)
          rw [rsn, if_neg k1, if_neg k2, if_neg k3, if_neg k4, if_neg (fun z => k6 z.2)]
          rfl
        · have k5 : s.2.2.2.2.2.1 = 1 := zeq (b := 1) c5
          have k6 : (kF s.1 g).isSome = true := by
            cases hx : kF s.1 g with
            | some _ => rfl
            | none => exact absurd ((enc2_9 n5).mpr hx) c6
          rw [rsn, if_neg k1, if_neg k2, if_neg k3, if_neg k4, if_pos ⟨k5, k6⟩]
          rfl
      · have k4 : (kPr s.2.2.2.2.1 false s.1 g).isSome = true := by
          cases hx : kPr s.2.2.2.2.1 false s.1 g with
          | some _ => rfl
          | none => exact absurd ((enc2_9 (n3 _ _)).mpr hx) c4
        refine ⟨?_, rfl⟩
        rw [rsn, if_neg k1, if_neg k2, if_neg k3, if_pos k4]
        rfl
    · have k3 : (kPr s.2.2.2.1 true s.1 g).isSome = true := by
        cases hx : kPr s.2.2.2.1 true s.1 g with
        | some _ => rfl
        | none => exact absurd ((enc2_9 (n3 _ _)).mpr hx) c3
      refine ⟨?_, rfl⟩
      rw [rsn, if_neg k1, if_neg k2, if_pos k3]
      rfl
  · rw [p3, e60] at c2
    have k1 := none_some.mp ((enc1_9 n1).mp c1)
    have k2 := (zbit0 (by omega) (by omega)).mp c2
    refine ⟨?_, rfl⟩
    rw [rsn, if_neg k1, if_pos k2]
    rfl
  · have k1 : (kS s.2.1 s.1 g).isSome = true := by
      cases hx : kS s.2.1 s.1 g with
      | some _ => rfl
      | none => exact absurd ((enc1_9 n1).mpr hx) c1
    refine ⟨?_, rfl⟩
    rw [rsn, if_pos k1]
    rfl
theorem rsn_le (s : zS) (g : Nat) : rsn s g ≤ 5 := by
  unfold rsn
  repeat' split
  all_goals omega
theorem c_X8_placeOf {h : zw_H} {s : zS} {g : Nat} (V : SV s) (T : RT h s.1) (Pg : RP h s) (hg : g < kN s.1) : zpI 4 mX8_placeOf [.ref 56, .int (nI g)] h (plc s g) := by
  obtain ⟨h1, h2, h3, h4, h5, h6⟩ := id T
  obtain ⟨v1, v2, v3, v4, v5, v6, v7, v8⟩ := id V
  obtain ⟨p1, p2, p3, p4, p5, p6, p7⟩ := id Pg
  have hN := (kN_le h1 h2).1
  have hr := rsn_le s g
  refine zcI_of rfl pn_X8 (fun _ => Nat.le_of_ble_eq_true rfl) rfl (rX8_placeOf_0 (ca (c_X8_reason V T Pg hg) ⟨fun c => ⟨?_, rfl⟩, fun c => ?_, fun c => ⟨g, rfl, by omega, ?_, rfl⟩, fun c => ?_, fun c => ?_, fun c => ?_⟩))
  · rw [nI_toInt (by omega)] at c
    rw [plc, if_neg (by omega), if_neg (by omega), if_neg (by omega), if_neg (by omega), if_neg (by omega)]
  · have e : rsn s g = 1 := zeq (b := 1) c
    refine ca (c_X8_firstSize T hg p2 v3) ⟨?_, rfl⟩
    rw [plc, if_pos e]
  · have e : rsn s g = 2 := zeq (b := 2) c
    rw [plc, if_neg (by omega), if_pos e, h5 g hg]
  · have e : rsn s g = 3 := zeq (b := 3) c
    rw [p4]
    refine ca (c_X8_firstPair T hg v5 (one := true) (bI_t rfl).symm) ⟨?_, rfl⟩
    rw [plc, if_neg (by omega), if_neg (by omega), if_pos e]
  · have e : rsn s g = 4 := zeq (b := 4) c
    rw [p5]
    refine ca (c_X8_firstPair T hg v6 (one := false) (bI_f (by decide)).symm) ⟨?_, rfl⟩
    rw [plc, if_neg (by omega), if_neg (by omega), if_neg (by omega), if_pos e]
  · have e : rsn s g = 5 := zeq (b := 5) c
    refine ca (c_X8_firstCrossing T hg) ⟨?_, rfl⟩
    rw [plc, if_neg (by omega), if_neg (by omega), if_neg (by omega), if_neg (by omega), if_pos e]
