/-- the cells of a page -/
def pgv (s : zS) : Nat → Int32
  | 0 => nI s.1
  | 1 => nI s.2.1
  | 2 => nI s.2.2.1
  | 3 => nI s.2.2.2.1
  | 4 => nI s.2.2.2.2.1
  | 5 => nI s.2.2.2.2.2.1
  | r + 6 => enc1 (s.2.2.2.2.2.2 r)
theorem RP_iff {h : zw_H} {s : zS} : RP h s ↔ ∀ c, c < 14 → h.1 57 c = pgv s c := by
  constructor
  · rintro ⟨p1, p2, p3, p4, p5, p6, p7⟩ c hc
    match c with
    | 0 => exact p1
    | 1 => exact p2
    | 2 => exact p3
    | 3 => exact p4
    | 4 => exact p5
    | 5 => exact p6
    | r + 6 =>
      have := p7 r (by omega)
      rw [Nat.add_comm] at this
      exact this
  · intro p
    exact ⟨p 0 (by omega), p 1 (by omega), p 2 (by omega), p 3 (by omega), p 4 (by omega), p 5 (by omega), fun r hr => by
      have := p (r + 6) (by omega)
      rw [Nat.add_comm]
      exact this⟩
/-- the remembered states, the latest first -/
def RH (h : zw_H) (m : Nat) (H : Nat → zS) : Prop := h.1 56 1 = nI m ∧ m ≤ 10 ∧ ∀ i c, i < m → c < 14 → h.1 57 (14 * (m - i) + c) = pgv (H i) c
def hpush (s : zS) (H : Nat → zS) : Nat → zS
  | 0 => s
  | i + 1 => H i
def mpush (m : Nat) : Nat := if m = 10 then 10 else m + 1
/-- what begins() changes -/
def pB (a b : Nat) : Prop := a = 57 ∧ 14 ≤ b ∨ a = 56 ∧ b = 1
theorem c_X8_begins {h : zw_H} {s : zS} {m : Nat} {H : Nat → zS} (Pg : RP h s) (Hh : RH h m H) : zcV 0 mX8_begins [.ref 56] h (fun h' => RH h' (mpush m) (hpush s H) ∧ Fr pB h h') := by
  obtain ⟨m1, m2, m3⟩ := Hh
  have pg := RP_iff.mp Pg
  refine zcV_of rfl pn_X8 (fun _ => Nat.le_of_ble_eq_true rfl) rfl ?_
  -- the last loop: the page now is copied behind
  have copy : ∀ (k : Nat) (h1 : zw_H), k + 1 ≤ 10 → Fr pB h h1 → h1.1 56 1 = nI (k + 1) → (∀ i c, i < k → c < 14 → h1.1 57 (14 * (k - i) + c) = pgv (H i) c) → zwV 0 mX8_begins (fun h' => RH h' (k + 1) (hpush s H) ∧ Fr pB h h') 63 [(0, .ref 56), (1, .int 0)] [] h1 := by
    intro k h1 hk fr e1 old
    refine lp_up (P := fun c => ∀ h2, Fr pB h h2 → h2.1 56 1 = nI (k + 1) → (∀ i c, i < k → c < 14 → h2.1 57 (14 * (k - i) + c) = pgv (H i) c) → (∀ c', c' < c → h2.1 57 (14 * (k + 1) + c') = pgv s c') → zwV 0 mX8_begins (fun h' => RH h' (k + 1) (hpush s H) ∧ Fr pB h h') 63 [(0, .ref 56), (1, .int (nI c))] [] h2) (N := 14) ?_ ?_ 0 (by omega) h1 fr e1 old (fun _ h => absurd h (by omega))
    · intro h2 fr e1 old new
      refine rX8_begins_63 ⟨fun _ => ⟨⟨e1, hk, fun i c hi hc => ?_⟩, fr⟩, fun c => absurd (by decide) c⟩
      match i with
      | 0 => exact new c hc
      | i + 1 =>
        have := old i c (by omega) hc
        rw [show k + 1 - (i + 1) = k - i by omega]
        exact this
    · intro c hc ih h2 fr e1 old new
      refine rX8_begins_63 ⟨fun z => ?_, fun _ => ⟨c, rfl, by omega, 14 * (k + 1) + c, ?_, by omega, fun h3 e3 => ?_⟩⟩
      · have := zle (a := 14) z
        omega
      · rw [e1, show (14 : Int32) = nI 14 from rfl, pk_mul, nI_add]
      · rw [nI_1]
        have v : h2.1 57 c = pgv s c := by rw [fr.1 57 c (by unfold pB; omega)]; exact pg c hc
        rw [v] at e3
        refine ih h3 (fr.sI e3 (Or.inl ⟨rfl, by omega⟩)) (by rw [e3, zw_sI_n (Or.inl (by decide))]; exact e1) (fun i c' hi hc' => ?_) (fun c' hc' => ?_)
        · rw [e3, zw_sI_n (Or.inr (by
            have : 14 * (k - i) ≤ 14 * k := Nat.mul_le_mul_left 14 (by omega)
            omega))]
          exact old i c' hi hc'
        · by_cases hx : c' = c
          · subst hx
            rw [e3, zw_sI_s]
          · rw [e3, zw_sI_n (Or.inr (by omega))]
            exact new c' (by omega)
  refine rX8_begins_0 ⟨fun c => fun h1 e1 => ?_, fun c => ?_⟩
  · have hm : m ≠ 10 := by
      intro hx
      rw [m1, hx] at c
      exact c rfl
    rw [mpush, if_neg hm]
    rw [m1, nI_1] at e1
    exact copy m h1 (by omega) (Fr.rf.sI e1 (Or.inr ⟨rfl, rfl⟩)) (by rw [e1, zw_sI_s]) (fun i c hi hc => by rw [e1, zw_sI_n (Or.inl (by decide))]; exact m3 i c hi hc)
  · have hm : m = 10 := by
      rw [m1] at c
      exact zeq (b := 10) c
    subst hm
    rw [mpush, if_pos rfl]
    refine lp_up (P := fun c => ∀ h2, Fr pB h h2 → h2.1 56 1 = nI 10 → (∀ c', c' < c → h2.1 57 (14 + c') = h.1 57 (28 + c')) → (∀ c', c ≤ c' → h2.1 57 (14 + c') = h.1 57 (14 + c')) → zwV 0 mX8_begins (fun h' => RH h' 10 (hpush s H) ∧ Fr pB h h') 11 [(0, .ref 56), (1, .int (nI c))] [] h2) (N := 126) ?_ ?_ 0 (by omega) h Fr.rf m1 (fun _ h => absurd h (by omega)) (fun _ _ => rfl)
    · intro h2 fr e1 new _
      refine rX8_begins_11 ⟨fun _ => fun h3 e3 h4 e4 => ?_, fun c => absurd (by decide) c⟩
      rw [e1] at e3
      have e3' : h3.1 56 1 = nI 10 - 1 := by rw [e3, zw_sI_s]
      rw [e3'] at e4
      have x : ∀ b, h4.1 57 b = h2.1 57 b := fun b => by rw [e4, zw_sI_n (Or.inl (by decide)), e3, zw_sI_n (Or.inl (by decide))]
      refine copy 9 h4 (by omega) ((fr.sI e3 (Or.inr ⟨rfl, rfl⟩)).sI e4 (Or.inr ⟨rfl, rfl⟩)) (by rw [e4, zw_sI_s]; rfl) (fun i c hi hc => ?_)
      rw [x]
      have h5 := new (14 * (9 - i) - 14 + c) (by omega)
      have h6 := m3 i c (by omega) hc
      rw [show 14 + (14 * (9 - i) - 14 + c) = 14 * (9 - i) + c by omega, show 28 + (14 * (9 - i) - 14 + c) = 14 * (10 - i) + c by omega, h6] at h5
      exact h5
    · intro c hc ih h2 fr e1 new old
      refine rX8_begins_11 ⟨fun z => ?_, fun _ => ⟨28 + c, ?_, by omega, 14 + c, ?_, by omega, fun h3 e3 => ?_⟩⟩
      · have := zle (a := 126) z
        omega
      · rw [show (28 : Int32) = nI 28 from rfl, nI_add]
      · rw [show (14 : Int32) = nI 14 from rfl, nI_add]
      · rw [nI_1]
        have v : h2.1 57 (28 + c) = h.1 57 (28 + c) := by
          have := old (14 + c) (by omega)
          rw [show 14 + (14 + c) = 28 + c by omega] at this
          exact this
        rw [v] at e3
        refine ih h3 (fr.sI e3 (Or.inl ⟨rfl, by omega⟩)) (by rw [e3, zw_sI_n (Or.inl (by decide))]; exact e1) (fun c' hc' => ?_) (fun c' hc' => ?_)
        · by_cases hx : c' = c
          · subst hx
            rw [e3, zw_sI_s]
          · rw [e3, zw_sI_n (Or.inr (by omega))]
            exact new c' (by omega)
        · rw [e3, zw_sI_n (Or.inr (by omega))]
          exact old c' (by omega)
/-- all that there is: the state, the remembered ones, the text -/
abbrev zA : Type := zS × Nat × (Nat → zS) × Nat × (Nat → Nat)
def AV (A : zA) : Prop := SV A.1 ∧ (∀ i, i < A.2.1 → SV (A.2.2.1 i)) ∧ A.2.2.2.1 ≤ 20 ∧ ∀ i, i < A.2.2.2.1 → A.2.2.2.2 i < 128
/-- the reference's text -/
def RX (h : zw_H) (k : Nat) (x : Nat → Nat) : Prop := h.1 56 3 = nI k ∧ ∀ i, i < k → h.1 58 i = nI (x i)
/-- the reference's world -/
def RW (h : zw_H) (A : zA) : Prop := AV A ∧ RT h A.1.1 ∧ RP h A.1 ∧ RA h A.1 ∧ RH h A.2.1 A.2.2.1 ∧ RX h A.2.2.2.1 A.2.2.2.2
/-- the reference's scratch rows -/
def pS (a b : Nat) : Prop := a = 62 ∨ a = 63 ∨ a = 64 ∨ a = 65 ∨ a = 56 ∧ b = 10
theorem RH.fr {P : Nat → Nat → Prop} {h h' : zw_H} {m : Nat} {H : Nat → zS} (T : RH h m H) (f : Fr P h h') (p1 : ¬ P 56 1) (p2 : ∀ b, 14 ≤ b → ¬ P 57 b) : RH h' m H := by
  obtain ⟨m1, m2, m3⟩ := T
  refine ⟨by rw [f.1 _ _ p1]; exact m1, m2, fun i c hi hc => ?_⟩
  rw [f.1 _ _ (p2 _ (by omega))]
  exact m3 i c hi hc
theorem RX.fr {P : Nat → Nat → Prop} {h h' : zw_H} {k : Nat} {x : Nat → Nat} (T : RX h k x) (f : Fr P h h') (p1 : ¬ P 56 3) (p2 : ∀ b, ¬ P 58 b) : RX h' k x := ⟨by rw [f.1 _ _ p1]; exact T.1, fun i hi => by rw [f.1 _ _ (p2 _)]; exact T.2 i hi⟩
theorem RW.fr {h h' : zw_H} {A : zA} (W : RW h A) (f : Fr pS h h') : RW h' A := by
  obtain ⟨w1, w2, w3, w4, w5, w6⟩ := W
  exact ⟨w1, w2.fr f (by unfold pS; omega) (by unfold pS; omega) (fun _ => by unfold pS; omega) (fun _ => by unfold pS; omega), w3.fr f (fun _ => by unfold pS; omega), w4.fr f (fun _ => by unfold pS; omega) (by unfold pS; omega), w5.fr f (by unfold pS; omega) (fun _ _ => by unfold pS; omega), w6.fr f (by unfold pS; omega) (fun _ => by unfold pS; omega)⟩
/-- the state before a change is remembered, then the state is s' -/
def chg (A : zA) (s' : zS) : zA := (s', mpush A.2.1, hpush A.1 A.2.2.1, A.2.2.2)
theorem AV.chg {A : zA} {s' : zS} (V : AV A) (hs : SV s') (hm : A.2.1 ≤ 10) : AV (chg A s') := by
  obtain ⟨v1, v2, v3⟩ := V
  refine ⟨hs, fun i hi => ?_, v3⟩
  match i with
  | 0 => exact v1
  | i + 1 =>
    refine v2 i ?_
    have : i + 1 < mpush A.2.1 := hi
    unfold mpush at this
    split at this <;> omega
/-- the reference's own cells -/
def pR (a _ : Nat) : Prop := 56 ≤ a
/-- a register is another one -/
def sReg (s : zS) (t : Nat) (o : Option Nat) : zS := (s.1, s.2.1, s.2.2.1, s.2.2.2.1, s.2.2.2.2.1, s.2.2.2.2.2.1, fun r => if r = t then o else s.2.2.2.2.2.2 r)
theorem SV.reg {s : zS} (V : SV s) {t g : Nat} (hg : g < kN s.1) : SV (sReg s t (some g)) := by
  obtain ⟨v1, v2, v3, v4, v5, v6, v7, v8⟩ := V
  refine ⟨v1, v2, v3, v4, v5, v6, v7, fun r g' hr he => ?_⟩
  have he : (if r = t then some g else s.2.2.2.2.2.2 r) = some g' := he
  by_cases hx : r = t
  · rw [if_pos hx] at he
    cases he
    exact hg
  · rw [if_neg hx] at he
    exact v8 r g' hr he
theorem rsn_reg (s : zS) (t : Nat) (o : Option Nat) (g : Nat) : rsn (sReg s t o) g = rsn s g := rfl
theorem c_X8_puts {h : zw_H} {A : zA} {t g : Nat} (W : RW h A) (ht : t < 8) (hg : g < kN A.1.1) : zcI 1 mX8_puts [.ref 56, .int (nI t), .int (nI g)] h (fun x h' => x = nI (kB A.1.1 g) ∧ RW h' (chg A (sReg A.1 t (some g))) ∧ Fr pR h h') := by
  obtain ⟨w1, w2, w3, w4, w5, w6⟩ := W
  have hN := (kN_le w2.1 w2.2.1).1
  refine zcI_of rfl pn_X8 (fun _ => Nat.le_of_ble_eq_true rfl) rfl (rX8_puts_0 (caV (c_X8_begins w3 w5) (fun h1 r1 => ⟨6 + t, ?_, by omega, fun h2 e2 => ⟨g, rfl, by omega, ?_, ?_, ?_⟩⟩)))
  · rw [show (6 : Int32) = nI 6 from rfl, nI_add]
  · rw [e2, zw_sI_n (Or.inl (by decide)), r1.2.1 60 g (by unfold pB; omega)]
    exact w2.2.2.2.2.1 g hg
  · have f2 : Fr (fun a b => a = 57 ∧ b = 6 + t) h1 h2 := Fr.rf.sI e2 ⟨rfl, rfl⟩
    have T1 : RT h1 A.1.1 := w2.fr r1.2 (by unfold pB; omega) (by unfold pB; omega) (fun _ => by unfold pB; omega) (fun _ => by unfold pB; omega)
    have P1 := RP_iff.mp w3
    refine ⟨w1.chg (w1.1.reg hg) w5.2.1, T1.fr f2 (by omega) (by omega) (fun _ => by omega) (fun _ => by omega), RP_iff.mpr (fun c hc => ?_), ?_, r1.1.fr f2 (by omega) (fun _ _ => by omega), (w6.fr r1.2 (by unfold pB; omega) (fun _ => by unfold pB; omega)).fr f2 (by omega) (fun _ => by omega)⟩
    · by_cases hx : c = 6 + t
      · subst hx
        rw [e2, zw_sI_s]
        show _ = pgv _ (6 + t)
        rw [Nat.add_comm]
        show _ = enc1 (if t = t then some g else _)
        rw [if_pos rfl]
        rfl
      · rw [e2, zw_sI_n (Or.inr hx), r1.2.1 57 c (by unfold pB; omega), P1 c hc]
        match c with
        | 0 => rfl
        | 1 => rfl
        | 2 => rfl
        | 3 => rfl
        | 4 => rfl
        | 5 => rfl
        | r + 6 =>
          show enc1 _ = enc1 (if r = t then some g else _)
          rw [if_neg (by omega)]
    · exact (w4.fr r1.2 (fun _ => by unfold pB; omega) (by unfold pB; omega)).fr f2 (fun _ => by omega) (by omega)
  · exact (r1.2.mo (fun a b z => by unfold pB at z; unfold pR; omega)).sI e2 (by unfold pR; omega)
