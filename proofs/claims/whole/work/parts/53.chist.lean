/-- what a register of the class holds -/
def encC (n : Nat) : Option Nat → Int32
  | none => -1
  | some g => nI (km n g)
/-- a State object of the class -/
def SO (h : zw_H) (o ra : Nat) (s : zS) : Prop := h.1 o 1 = nI s.1 ∧ h.1 o 2 = nI s.2.1 ∧ h.1 o 3 = nI s.2.2.1 ∧ h.1 o 4 = nI s.2.2.2.1 ∧ h.1 o 5 = nI s.2.2.2.2.1 ∧ h.1 o 6 = nI s.2.2.2.2.2.1 ∧ ∀ r, r < 8 → h.1 ra r = encC s.1 (s.2.2.2.2.2.2 r)
theorem SO.fr {P : Nat → Nat → Prop} {h h' : zw_H} {o ra : Nat} {s : zS} (S : SO h o ra s) (f : Fr P h h') (p1 : ∀ b, ¬ P o b) (p2 : ∀ b, ¬ P ra b) : SO h' o ra s := by
  obtain ⟨s1, s2, s3, s4, s5, s6, s7⟩ := S
  exact ⟨by rw [f.1 _ _ (p1 _)]; exact s1, by rw [f.1 _ _ (p1 _)]; exact s2, by rw [f.1 _ _ (p1 _)]; exact s3, by rw [f.1 _ _ (p1 _)]; exact s4, by rw [f.1 _ _ (p1 _)]; exact s5, by rw [f.1 _ _ (p1 _)]; exact s6, fun r hr => by rw [f.1 _ _ (p2 _)]; exact s7 r hr⟩
theorem c_X5_takeFrom {h : zw_H} {o ra o2 ra2 : Nat} {s : zS} (ho : zSH[o]? = some (.inl (5, [some (some ra), none, none, none, none, none, none]))) (hra : zSH[ra]? = some (.inr (0, 8, fun _ => none))) (ho2 : zSH[o2]? = some (.inl (5, [some (some ra2), none, none, none, none, none, none]))) (hra2 : zSH[ra2]? = some (.inr (0, 8, fun _ => none))) (d1 : o ≠ o2) (d2 : o ≠ ra2) (d3 : ra ≠ o2) (d4 : ra ≠ ra2) (d5 : o ≠ ra) (V : SV s) (S : SO h o2 ra2 s) : zcV 0 mX5_takeFrom [.ref o, .ref o2] h (fun h' => SO h' o ra s ∧ Fr (fun a _ => a = o ∨ a = ra) h h') := by
  refine zcV_of rfl pn_X5 (fun _ => Nat.le_of_ble_eq_true rfl) rfl (rX5_takeFrom_0 ho hra ho2 hra2 ?_)
  refine lp_up (P := fun r => ∀ k, Fr (fun a _ => a = ra) h k → (∀ r', r' < r → k.1 ra r' = encC s.1 (s.2.2.2.2.2.2 r')) → zwV 0 mX5_takeFrom (fun h' => SO h' o ra s ∧ Fr (fun a _ => a = o ∨ a = ra) h h') 2 [(0, .ref o), (1, .ref o2), (2, .int (nI r))] [] k) (N := 8) ?_ ?_ 0 (by omega) h Fr.rf (fun _ h => absurd h (by omega))
  · intro k fr inv
    have S1 : SO k o2 ra2 s := S.fr fr (fun _ z => d3 z.symm) (fun _ z => d4 z.symm)
    refine rX5_takeFrom_2 ho hra ho2 hra2 ⟨fun _ => fun k1 e1 k2 e2 k3 e3 k4 e4 k5 e5 => ?_, fun c => absurd (by decide) c⟩
    have f5 : Fr (fun a _ => a = o) k k5 := ((((Fr.rf.sI e1 rfl).sI e2 rfl).sI e3 rfl).sI e4 rfl).sI e5 rfl
    have S5 : SO k5 o2 ra2 s := S1.fr f5 (fun _ z => d1 z.symm) (fun _ z => d2 z.symm)
    have S2 : SO k1 o2 ra2 s := S1.fr (Fr.rf.sI e1 (P := fun a _ => a = o) rfl) (fun _ z => d1 z.symm) (fun _ z => d2 z.symm)
    have S3 : SO k2 o2 ra2 s := S2.fr (Fr.rf.sI e2 (P := fun a _ => a = o) rfl) (fun _ z => d1 z.symm) (fun _ z => d2 z.symm)
    have S4 : SO k3 o2 ra2 s := S3.fr (Fr.rf.sI e3 (P := fun a _ => a = o) rfl) (fun _ z => d1 z.symm) (fun _ z => d2 z.symm)
    have S4' : SO k4 o2 ra2 s := S4.fr (Fr.rf.sI e4 (P := fun a _ => a = o) rfl) (fun _ z => d1 z.symm) (fun _ z => d2 z.symm)
    have b6 : k5.1 o2 6 = nI s.2.2.2.2.2.1 := S5.2.2.2.2.2.1
    have nc := V.2.2.2.2.2.2.1
    refine ⟨?_, fun k6 e6 => ?_⟩
    · rw [b6]
      rcases (show s.2.2.2.2.2.1 = 0 ∨ s.2.2.2.2.2.1 = 1 by omega) with z | z <;> rw [z]
      · exact Or.inl rfl
      · exact Or.inr rfl
    · have f6 : Fr (fun a _ => a = o) k k6 := f5.sI e6 rfl
      refine ⟨⟨?_, ?_, ?_, ?_, ?_, ?_, fun r hr => ?_⟩, (fr.mo (fun a b z => Or.inr z)).tr (f6.mo (fun a b z => Or.inl z))⟩
      · rw [e6, zw_sI_n (Or.inr (by decide)), e5, zw_sI_n (Or.inr (by decide)), e4, zw_sI_n (Or.inr (by decide)), e3, zw_sI_n (Or.inr (by decide)), e2, zw_sI_n (Or.inr (by decide)), e1, zw_sI_s]
        exact S1.1
      · rw [e6, zw_sI_n (Or.inr (by decide)), e5, zw_sI_n (Or.inr (by decide)), e4, zw_sI_n (Or.inr (by decide)), e3, zw_sI_n (Or.inr (by decide)), e2, zw_sI_s]
        exact S2.2.1
      · rw [e6, zw_sI_n (Or.inr (by decide)), e5, zw_sI_n (Or.inr (by decide)), e4, zw_sI_n (Or.inr (by decide)), e3, zw_sI_s]
        exact S3.2.2.1
      · rw [e6, zw_sI_n (Or.inr (by decide)), e5, zw_sI_n (Or.inr (by decide)), e4, zw_sI_s]
        exact S4.2.2.2.1
      · rw [e6, zw_sI_n (Or.inr (by decide)), e5, zw_sI_s]
        exact S4'.2.2.2.2.1
      · rw [e6, zw_sI_s]
        exact b6
      · rw [f6.1 ra r (Ne.symm d5)]
        exact inv r hr
  · intro r hr ih k fr inv
    have S1 : SO k o2 ra2 s := S.fr fr (fun _ z => d3 z.symm) (fun _ z => d4 z.symm)
    refine rX5_takeFrom_2 ho hra ho2 hra2 ⟨fun c => ?_, fun _ => ⟨r, rfl, hr, r, rfl, hr, fun k2 e2 => ?_⟩⟩
    · have := zle (a := 8) c
      omega
    · rw [nI_1]
      refine ih k2 (fr.sI e2 rfl) (fun r' hr' => ?_)
      by_cases hx : r' = r
      · rw [hx, e2, zw_sI_s]
        exact S1.2.2.2.2.2.2 r hr
      · rw [e2, zw_sI_n (Or.inr hx)]
        exact inv r' (by omega)
theorem c_X5_reset {h : zw_H} {n : Nat} : zcV 0 mX5_reset [.ref 1, .int (nI n)] h (fun h' => SO h' 1 2 (s0 n) ∧ Fr (fun a _ => a = 1 ∨ a = 2) h h') := by
  refine zcV_of rfl pn_X5 (fun _ => Nat.le_of_ble_eq_true rfl) rfl (rX5_reset_0 ?_)
  refine lp_up (P := fun r => ∀ k, Fr (fun a _ => a = 1 ∨ a = 2) h k → (∀ r', r' < r → k.1 2 r' = -1) → zwV 0 mX5_reset (fun h' => SO h' 1 2 (s0 n) ∧ Fr (fun a _ => a = 1 ∨ a = 2) h h') 2 [(0, .ref 1), (1, .int (nI n)), (2, .int (nI r))] [] k) (N := 8) ?_ ?_ 0 (by omega) h Fr.rf (fun _ h => absurd h (by omega))
  · intro k fr inv
    refine rX5_reset_2 ⟨fun _ => fun k1 e1 k2 e2 k3 e3 k4 e4 k5 e5 k6 e6 => ?_, fun c => absurd (by decide) c⟩
    have f0 : Fr (fun a _ => a = 1) k k := Fr.rf
    have f6 : Fr (fun a _ => a = 1) k k6 := (((((f0.sI e1 rfl).sI e2 rfl).sI e3 rfl).sI e4 rfl).sI e5 rfl).sI e6 rfl
    refine ⟨⟨?_, ?_, ?_, ?_, ?_, ?_, fun r hr => ?_⟩, fr.tr (f6.mo (fun a b z => Or.inl z))⟩
    · rw [e6, zw_sI_n (Or.inr (by decide)), e5, zw_sI_n (Or.inr (by decide)), e4, zw_sI_n (Or.inr (by decide)), e3, zw_sI_n (Or.inr (by decide)), e2, zw_sI_n (Or.inr (by decide)), e1, zw_sI_s]; rfl
    · rw [e6, zw_sI_n (Or.inr (by decide)), e5, zw_sI_n (Or.inr (by decide)), e4, zw_sI_n (Or.inr (by decide)), e3, zw_sI_n (Or.inr (by decide)), e2, zw_sI_s]; rfl
    · rw [e6, zw_sI_n (Or.inr (by decide)), e5, zw_sI_n (Or.inr (by decide)), e4, zw_sI_n (Or.inr (by decide)), e3, zw_sI_s]; rfl
    · rw [e6, zw_sI_n (Or.inr (by decide)), e5, zw_sI_n (Or.inr (by decide)), e4, zw_sI_s]; rfl
    · rw [e6, zw_sI_n (Or.inr (by decide)), e5, zw_sI_s]; rfl
    · rw [e6, zw_sI_s]; rfl
    · rw [f6.1 2 r (by omega)]
      exact inv r hr
  · intro r hr ih k fr inv
    refine rX5_reset_2 ⟨fun c => ?_, fun _ => ⟨r, rfl, hr, fun k2 e2 => ?_⟩⟩
    · have := zle (a := 8) c
      omega
    · rw [nI_1]
      refine ih k2 (fr.sI e2 (Or.inr rfl)) (fun r' hr' => ?_)
      by_cases hx : r' = r
      · rw [hx, e2, zw_sI_s]
      · rw [e2, zw_sI_n (Or.inr hx)]
        exact inv r' (by omega)
/-- the place of the i-th latest state in the ring -/
def rp (p i : Nat) : Nat := (p + 9 - i) % 10
/-- the ring of the class -/
def CH (h : zw_H) (m : Nat) (H : Nat → zS) : Prop := ∃ p, p < 10 ∧ h.1 3 1 = nI p ∧ h.1 3 2 = nI m ∧ m ≤ 10 ∧ ∀ i, i < m → SO h (2 * rp p i + 5) (2 * rp p i + 6) (H i)
theorem CH.fr {P : Nat → Nat → Prop} {h h' : zw_H} {m : Nat} {H : Nat → zS} (C : CH h m H) (f : Fr P h h') (p1 : ∀ b, ¬ P 3 b) (p2 : ∀ a b, 5 ≤ a → a ≤ 24 → ¬ P a b) : CH h' m H := by
  obtain ⟨p, q1, q2, q3, q4, q5⟩ := C
  refine ⟨p, q1, by rw [f.1 _ _ (p1 _)]; exact q2, by rw [f.1 _ _ (p1 _)]; exact q3, q4, fun i hi => ?_⟩
  have hr : rp p i < 10 := Nat.mod_lt _ (by decide)
  exact (q5 i hi).fr f (fun _ => p2 _ _ (by omega) (by omega)) (fun _ => p2 _ _ (by omega) (by omega))
def pH (a _b : Nat) : Prop := a = 3 ∨ 5 ≤ a ∧ a ≤ 24
theorem c_X1_remember {h : zw_H} {s : zS} {m : Nat} {H : Nat → zS} (V : SV s) (S : SO h 1 2 s) (C : CH h m H) : zcV 1 mX1_remember [.ref 3, .ref 1] h (fun h' => CH h' (mpush m) (hpush s H) ∧ Fr pH h h') := by
  obtain ⟨p, q1, q2, q3, q4, q5⟩ := C
  refine zcV_of rfl pn_X1 (fun _ => Nat.le_of_ble_eq_true rfl) rfl (rX1_remember_0 ⟨p, q2, q1, caV (c_X5_takeFrom (zs_hS q1) (zs_hR q1) zs_1 zs_2 (by omega) (by omega) (by omega) (by omega) (by omega) V S) (fun k2 r2 => ?_)⟩)
  obtain ⟨S2, f2⟩ := r2
  have F2 : Fr pH h k2 := f2.mo (fun a b z => by unfold pH; omega)
  have v1 : k2.1 3 1 = nI p := by rw [f2.1 3 1 (by omega)]; exact q2
  have v2 : k2.1 3 2 = nI m := by rw [f2.1 3 2 (by omega)]; exact q3
  have zm : zmin (nI m + 1) 10 = nI (mpush m) := by
    rw [nI_1]
    unfold zmin mpush
    by_cases hx : m = 10
    · subst hx
      decide
    · rw [if_neg (fun c => by have := zlt (a := 10) c; omega), if_neg hx]
  have fin : ∀ p', p' < 10 → p' = (p + 1) % 10 → ∀ k3, k3 = zw_sI k2 3 1 (nI p') → ∀ k4, k4 = zw_sI k3 3 2 (nI (mpush m)) → CH k4 (mpush m) (hpush s H) ∧ Fr pH h k4 := by
    intro p' hp' ep k3 e3 k4 e4
    have f4 : Fr (fun a b => a = 3) k2 k4 := (Fr.rf.sI e3 rfl).sI e4 rfl
    refine ⟨⟨p', hp', ?_, ?_, ?_, fun i hi => ?_⟩, F2.tr (f4.mo (fun a b z => Or.inl z))⟩
    · rw [e4, zw_sI_n (Or.inr (by decide)), e3, zw_sI_s]
    · rw [e4, zw_sI_s]
    · unfold mpush
      split <;> omega
    · refine SO.fr ?_ f4 (fun _ => by omega) (fun _ => by omega)
      match i with
      | 0 =>
        have e : rp p' 0 = p := by unfold rp; omega
        rw [e]
        exact S2
      | i + 1 =>
        have hi2 : i + 1 < mpush m := hi
        have hi3 : i < m ∧ i < 9 := by
          unfold mpush at hi2
          split at hi2 <;> omega
        have e : rp p' (i + 1) = rp p i := by unfold rp; omega
        have hne : rp p i ≠ p := by unfold rp; omega
        rw [e]
        exact (q5 i hi3.1).fr f2 (fun _ => by omega) (fun _ => by omega)
  rw [v1]
  refine ⟨fun c => fun k3 e3 k4 e4 => ?_, fun c => fun k3 e3 k4 e4 => ?_⟩
  · rw [nI_1] at c
    have := zle (a := 10) c
    have e : k3.1 3 2 = nI m := by rw [e3, zw_sI_n (Or.inr (by decide))]; exact v2
    rw [e, zm] at e4
    exact fin 0 (by omega) (by omega) k3 e3 k4 e4
  · rw [nI_1] at c e3
    have := znle (a := 10) c
    have e : k3.1 3 2 = nI m := by rw [e3, zw_sI_n (Or.inr (by decide))]; exact v2
    rw [e, zm] at e4
    exact fin (p + 1) (by omega) (by omega) k3 e3 k4 e4
theorem c_X1_restore0 {h : zw_H} {H : Nat → zS} (C : CH h 0 H) : zpI 1 mX1_restore [.ref 3, .ref 1] h 0 := by
  obtain ⟨p, q1, q2, q3, q4, q5⟩ := C
  exact zcI_of rfl pn_X1 (fun _ => Nat.le_of_ble_eq_true rfl) rfl (rX1_restore_0 ⟨fun c => absurd (by rw [q3]; rfl) c, fun _ => ⟨rfl, rfl⟩⟩)
theorem c_X1_restore {h : zw_H} {m : Nat} {H : Nat → zS} (V : SV (H 0)) (C : CH h (m + 1) H) : zcI 1 mX1_restore [.ref 3, .ref 1] h (fun x h' => x = 1 ∧ SO h' 1 2 (H 0) ∧ CH h' m (fun i => H (i + 1)) ∧ Fr (fun a _ => a = 1 ∨ a = 2 ∨ a = 3) h h') := by
  obtain ⟨p, q1, q2, q3, q4, q5⟩ := C
  have hr : rp p 0 < 10 := Nat.mod_lt _ (by decide)
  have fin : ∀ k1, k1 = zw_sI h 3 1 (nI (rp p 0)) → ∀ k2, k2 = zw_sI k1 3 2 (k1.1 3 2 - 1) → ∃ j3, (k2.1 3 1) = nI j3 ∧ j3 < 10 ∧ ∃ q : zw_H → Prop, zcV 0 mX5_takeFrom [.ref 1, .ref (2 * j3 + 5)] k2 q ∧ ∀ h4, q h4 → ((1 : Int32) = 1 ∧ SO h4 1 2 (H 0) ∧ CH h4 m (fun i => H (i + 1)) ∧ Fr (fun a _ => a = 1 ∨ a = 2 ∨ a = 3) h h4) := by
    intro k1 e1 k2 e2
    have v1 : k1.1 3 2 = nI (m + 1) := by rw [e1, zw_sI_n (Or.inr (by decide))]; exact q3
    rw [v1, nI_pred] at e2
    have f2 : Fr (fun a b => a = 3) h k2 := (Fr.rf.sI e1 rfl).sI e2 rfl
    have S2 : SO k2 (2 * rp p 0 + 5) (2 * rp p 0 + 6) (H 0) := (q5 0 (by omega)).fr f2 (fun _ => by omega) (fun _ => by omega)
    refine ⟨rp p 0, by rw [e2, zw_sI_n (Or.inr (by decide)), e1, zw_sI_s], hr, caV (c_X5_takeFrom zs_1 zs_2 (zs_hS hr) (zs_hR hr) (by omega) (by omega) (by omega) (by omega) (by omega) V S2) (fun k3 r3 => ⟨rfl, r3.1, ⟨rp p 0, hr, ?_, ?_, by omega, fun i hi => ?_⟩, ?_⟩)⟩
    · rw [r3.2.1 3 1 (by omega), e2, zw_sI_n (Or.inr (by decide)), e1, zw_sI_s]
    · rw [r3.2.1 3 2 (by omega), e2, zw_sI_s]
    · have e : rp (rp p 0) i = rp p (i + 1) := by unfold rp; omega
      rw [e]
      exact ((q5 (i + 1) (by omega)).fr f2 (fun _ => by omega) (fun _ => by omega)).fr r3.2 (fun _ => by omega) (fun _ => by omega)
    · exact (f2.mo (fun a b z => by omega)).tr (r3.2.mo (fun a b z => by omega))
  refine zcI_of rfl pn_X1 (fun _ => Nat.le_of_ble_eq_true rfl) rfl (rX1_restore_0 ⟨fun _ => ⟨fun c => fun k1 e1 k2 e2 => fin k1 ?_ k2 e2, fun c => fun k1 e1 k2 e2 => fin k1 ?_ k2 e2⟩, fun c => ?_⟩)
  · rw [q2] at c
    have := zle (b := 0) c
    have e : rp p 0 = 9 := by unfold rp; omega
    rw [e]
    exact e1
  · rw [q2] at c
    have := znle (b := 0) c
    have e : p = rp p 0 + 1 := by unfold rp; omega
    rw [q2, e, nI_pred] at e1
    exact e1
  · rw [q3] at c
    have := zeq (b := 0) c
    omega
