def kI (p : Nat) : Nat := [0, 0, 0, 0, 0, 1, 1, 1, 1, 2, 2, 2, 3, 3, 4].getD p 0
def kJ (p : Nat) : Nat := [1, 2, 3, 4, 5, 2, 3, 4, 5, 3, 4, 5, 4, 5, 5].getD p 0
theorem kIJ : ∀ p, p < 15 → zw_small p = nI (kI p) ∧ zw_great p = nI (kJ p) ∧ kI p < kJ p ∧ kJ p < 6 ∧ kp (kI p) (kJ p) = p := by decide +kernel
theorem kIJ_kp : ∀ j, j < 6 → ∀ i, i < j → kI (kp i j) = i ∧ kJ (kp i j) = j := by decide +kernel
theorem kb_le (n t : Nat) : ∀ e, kb n t e ≤ kb n t (e + 1) := fun e => by
  rw [kb]
  split <;> omega
theorem kb_mono (n t : Nat) {e f : Nat} (h : e ≤ f) : kb n t e ≤ kb n t f := by
  induction f with
  | zero => rw [show e = 0 by omega]; exact Nat.le_refl _
  | succ f ih =>
    by_cases hx : e = f + 1
    · rw [hx]; exact Nat.le_refl _
    · exact Nat.le_trans (ih (by omega)) (kb_le n t f)
/-- what stands before has a label already -/
theorem ks_kb {n g e f : Nat} (h1 : 1 ≤ n) (h2 : n ≤ 6) (hg : g < kN n) (he : e ≤ n) (hf : f < e) : ks n g f < kb n (kt n g) e := by
  have h := (ks_grow h1 h2 hg (show f < n by omega)).1
  have h3 : ks n g f < kb n (kt n g) (f + 1) := by
    rw [kb]
    by_cases hx : kd n (kt n g) f = kb n (kt n g) f
    · rw [if_pos hx]
      show kd n (kt n g) f < _
      omega
    · rw [if_neg hx]
      have : ks n g f = kd n (kt n g) f := rfl
      omega
  exact Nat.lt_of_lt_of_le h3 (kb_mono n (kt n g) (show f + 1 ≤ e by omega))
/-- the label of e: that of the first before it in its block, or a new one -/
def lbl (n g e f m : Nat) : Nat := match fs (fun f => decide (ks n g f = ks n g e)) f m with
  | some f => ks n g f
  | none => kb n (kt n g) e
theorem lbl_ks {n g e : Nat} (h1 : 1 ≤ n) (h2 : n ≤ 6) (hg : g < kN n) (he : e < n) : lbl n g e 0 e = ks n g e := by
  unfold lbl
  cases hx : fs (fun f => decide (ks n g f = ks n g e)) 0 e with
  | some f => exact of_decide_eq_true (fs_some hx).2.2.1
  | none =>
    rcases (ks_grow h1 h2 hg he).2.2 with h | ⟨f, hf, h⟩
    · exact h.symm
    · have := fs_none.mp hx f (by omega) (by omega)
      simp [h] at this
def pSh (o la ma a b : Nat) : Prop := a = la ∨ a = ma ∨ a = o ∧ (b = 2 ∨ b = 3)
/-- a partition is spelled out -/
def SP (h : zw_H) (o la ma n g : Nat) : Prop := h.1 o 2 = nI n ∧ h.1 o 3 = nI (kB n g) ∧ (∀ e, e < n → h.1 la e = nI (ks n g e)) ∧ ∀ b, b < kB n g → h.1 ma b = nI (kE n g b)
theorem c_X3_labelOfPartner {h : zw_H} {o la ma n g e : Nat} (ho : zSH[o]? = some (.inl (3, [some (some la), some (some ma), none, none]))) (hla : zSH[la]? = some (.inr (0, 6, fun _ => none))) (hma : zSH[ma]? = some (.inr (0, 6, fun _ => none))) (h1 : 1 ≤ n) (h2 : n ≤ 6) (hg : g < kN n) (he : e < n) (e3 : h.1 o 3 = nI (kb n (kt n g) e)) (el : ∀ f, f < e → h.1 la f = nI (ks n g f)) : zpI 1 mX3_labelOfPartner [.ref o, .int (nI (km n g)), .int (nI e)] h (nI (ks n g e)) := by
  have hm := km_lt h1 h2 hg
  refine zcI_of rfl pn_X3 (fun _ => Nat.le_of_ble_eq_true rfl) rfl (rX3_labelOfPartner_0 ho hla hma ?_)
  generalize hr : nI (ks n g e) = res
  have e0 : lbl n g e 0 (e - 0) = ks n g e := lbl_ks h1 h2 hg he
  refine lp_up (P := fun f => lbl n g e f (e - f) = ks n g e → zwI 1 mX3_labelOfPartner (fun x h' => x = res ∧ h' = h) 2 [(0, .ref o), (1, .int (nI (km n g))), (2, .int (nI e)), (3, .int (nI f))] [] h) (N := e) ?_ ?_ 0 (by omega) e0
  · intro q
    refine rX3_labelOfPartner_2 ho hla hma ⟨fun _ => ⟨?_, rfl⟩, fun c => absurd (nI_le (Nat.le_refl _) (by omega)) c⟩
    unfold lbl at q
    rw [fs_end (Nat.le_refl _)] at q
    rw [← hr, e3, ← q]
  · intro f hf ih q
    have hb := zset hm (show f < 6 by omega) (show e < 6 by omega) hf
    rw [km_bit h1 h2 hg hf (by omega), decide_eq_true he, Bool.true_and] at hb
    unfold lbl at q ih
    rw [fs_step hf] at q
    refine rX3_labelOfPartner_2 ho hla hma ⟨fun c => ?_, fun _ => ca (c_X7_pairBit h (by omega) (by omega)) ⟨fun c => ?_, fun c => ⟨f, rfl, by omega, ?_, rfl⟩⟩⟩
    · have := zle c
      omega
    · rw [nI_1]
      refine ih ?_
      rw [if_neg (by rw [hb.mp c]; decide)] at q
      exact q
    · rw [el f hf, ← hr, if_pos] at *
      · exact congrArg nI q
      · cases hx : decide (ks n g f = ks n g e) with
        | true => rfl
        | false => exact absurd (hb.mpr hx) c
theorem ke_lt (n t b : Nat) : ∀ e, ke n t b e < 2 ^ e
  | 0 => Nat.zero_lt_one
  | e + 1 => by
    have h := ke_lt n t b e
    rw [ke, Nat.pow_succ]
    split <;> omega
theorem ke_or (n t b e : Nat) : ke n t b e ||| 2 ^ e = ke n t b e + 2 ^ e := by
  have := Nat.two_pow_add_eq_or_of_lt (ke_lt n t b e) 1
  rw [Nat.mul_one] at this
  rw [Nat.or_comm, ← this, Nat.add_comm]
theorem ke_no {n t b : Nat} : ∀ {e : Nat}, (∀ f, f < e → kd n t f ≠ b) → ke n t b e = 0
  | 0, _ => rfl
  | e + 1, h => by rw [ke, if_neg (h e (by omega)), ke_no (fun f hf => h f (by omega))]
theorem c_X3_spell {h : zw_H} {o la ma n g : Nat} (ho : zSH[o]? = some (.inl (3, [some (some la), some (some ma), none, none]))) (hla : zSH[la]? = some (.inr (0, 6, fun _ => none))) (hma : zSH[ma]? = some (.inr (0, 6, fun _ => none))) (dlm : la ≠ ma) (dol : o ≠ la) (dom : o ≠ ma) (h1 : 1 ≤ n) (h2 : n ≤ 6) (hg : g < kN n) : zcV 2 mX3_spell [.ref o, .int (nI (km n g)), .int (nI n)] h (fun h' => SP h' o la ma n g ∧ Fr (pSh o la ma) h h') := by
  refine zcV_of rfl pn_X3 (fun _ => Nat.le_of_ble_eq_true rfl) rfl (rX3_spell_0 ho hla hma (fun k1 e1 k2 e2 => ?_))
  have mn : zmin (nI n) 6 = nI n := by
    unfold zmin
    rw [if_neg]
    intro c
    have := zlt (a := 6) c
    omega
  rw [mn] at e1
  have po2 : pSh o la ma o 2 := Or.inr (Or.inr ⟨rfl, Or.inl rfl⟩)
  have po3 : pSh o la ma o 3 := Or.inr (Or.inr ⟨rfl, Or.inr rfl⟩)
  have F : Fr (pSh o la ma) h k2 := (Fr.rf.sI e1 po2).sI e2 po3
  generalize hQ : (fun (h' : zw_H) => SP h' o la ma n g ∧ Fr (pSh o la ma) h h') = Q
  refine lp_up (P := fun e => ∀ k, Fr (pSh o la ma) h k → k.1 o 2 = nI n → k.1 o 3 = nI (kb n (kt n g) e) → (∀ f, f < e → k.1 la f = nI (ks n g f)) → (∀ b, b < kb n (kt n g) e → k.1 ma b = nI (ke n (kt n g) b e)) → zwV 2 mX3_spell Q 17 [(0, .ref o), (1, .int (nI (km n g))), (3, .int (nI e))] [] k) (N := n) ?_ ?_ 0 (by omega) k2 F (by rw [e2, zw_sI_n (Or.inr (by decide)), e1, zw_sI_s]) (by rw [e2, zw_sI_s]; rfl) (fun _ h => absurd h (by omega)) (fun _ h => absurd h (by show ¬ _ < 0; omega))
  · intro k fr v2 v3 vl vm
    refine rX3_spell_17 ho hla hma ⟨fun _ => ?_, fun c => absurd (by rw [v2]; exact nI_le (Nat.le_refl _) (by omega)) c⟩
    rw [← hQ]
    exact ⟨⟨v2, v3, vl, vm⟩, fr⟩
  · intro e he ih k fr v2 v3 vl vm
    obtain ⟨g1, g2, g3⟩ := ks_grow h1 h2 hg he
    have hB := kB_le h1 h2 hg
    have hbe : kb n (kt n g) (e + 1) ≤ kB n g := kb_mono n (kt n g) (show e + 1 ≤ n by omega)
    have kbs : kb n (kt n g) (e + 1) = if ks n g e = kb n (kt n g) e then kb n (kt n g) e + 1 else kb n (kt n g) e := rfl
    have kes : ∀ b, ke n (kt n g) b (e + 1) = if ks n g e = b then ke n (kt n g) b e + 2 ^ e else ke n (kt n g) b e := fun b => rfl
    refine rX3_spell_17 ho hla hma ⟨fun c => ?_, fun _ => ca (c_X3_labelOfPartner ho hla hma h1 h2 hg he v3 vl) ⟨fun c => ⟨e, rfl, by omega, fun k3 e3 => ⟨_, rfl, by omega, _, rfl, by omega, fun k6 e6 => ?_⟩⟩, fun c => ⟨_, rfl, by omega, fun k8 e8 => fun k9 e9 => ⟨e, rfl, by omega, fun k11 e11 => ⟨_, rfl, by omega, _, rfl, by omega, fun k14 e14 => ?_⟩⟩⟩⟩⟩
    · rw [v2] at c
      have := zle c
      omega
    · rw [v3] at c
      have hne : ks n g e ≠ kb n (kt n g) e := fun z => c (by rw [z])
      rw [if_neg hne] at kbs
      rw [kbs] at ih
      rw [nI_1]
      have vo : k3.1 ma (ks n g e) = nI (ke n (kt n g) (ks n g e) e) := by
        rw [e3, zw_sI_n (Or.inl (Ne.symm dlm))]
        exact vm _ (by omega)
      rw [vo, zone (by omega), zor, ke_or] at e6
      refine ih k6 ((fr.sI e3 (Or.inl rfl)).sI e6 (Or.inr (Or.inl rfl))) ?_ ?_ (fun f hf => ?_) (fun b hb => ?_)
      · rw [e6, zw_sI_n (Or.inl dom), e3, zw_sI_n (Or.inl dol)]
        exact v2
      · rw [e6, zw_sI_n (Or.inl dom), e3, zw_sI_n (Or.inl dol)]
        exact v3
      · rw [e6, zw_sI_n (Or.inl dlm)]
        by_cases hx : f = e
        · rw [hx, e3, zw_sI_s]
        · rw [e3, zw_sI_n (Or.inr hx)]
          exact vl f (by omega)
      · rw [kes]
        by_cases hx : b = ks n g e
        · subst hx
          rw [e6, zw_sI_s, if_pos rfl]
        · rw [e6, zw_sI_n (Or.inr hx), e3, zw_sI_n (Or.inl (Ne.symm dlm)), if_neg (Ne.symm hx)]
          exact vm b hb
    · rw [v3] at c
      have heq : ks n g e = kb n (kt n g) e := zeq c
      rw [if_pos heq] at kbs
      rw [kbs] at ih
      rw [nI_1]
      have no : ke n (kt n g) (ks n g e) e = 0 := ke_no (fun f hf z => by
        have : ks n g f < kb n (kt n g) e := ks_kb h1 h2 hg (by omega) hf
        have z : ks n g f = ks n g e := z
        omega)
      have vo3 : k8.1 o 3 = nI (kb n (kt n g) e) := by
        rw [e8, zw_sI_n (Or.inl dom)]
        exact v3
      rw [vo3, nI_1] at e9
      have vo : k11.1 ma (ks n g e) = nI 0 := by
        rw [e11, zw_sI_n (Or.inl (Ne.symm dlm)), e9, zw_sI_n (Or.inl (Ne.symm dom)), e8, zw_sI_s]
        rfl
      rw [vo, zone (by omega), zor, Nat.zero_or] at e14
      refine ih k14 ((((fr.sI e8 (Or.inr (Or.inl rfl))).sI e9 po3).sI e11 (Or.inl rfl)).sI e14 (Or.inr (Or.inl rfl))) ?_ ?_ (fun f hf => ?_) (fun b hb => ?_)
      · rw [e14, zw_sI_n (Or.inl dom), e11, zw_sI_n (Or.inl dol), e9, zw_sI_n (Or.inr (by decide)), e8, zw_sI_n (Or.inl dom)]
        exact v2
      · rw [e14, zw_sI_n (Or.inl dom), e11, zw_sI_n (Or.inl dol), e9, zw_sI_s]
      · rw [e14, zw_sI_n (Or.inl dlm)]
        by_cases hx : f = e
        · rw [hx, e11, zw_sI_s]
        · rw [e11, zw_sI_n (Or.inr hx), e9, zw_sI_n (Or.inl (Ne.symm dol)), e8, zw_sI_n (Or.inl dlm)]
          exact vl f (by omega)
      · rw [kes]
        by_cases hx : b = ks n g e
        · subst hx
          rw [e14, zw_sI_s, if_pos rfl, no, Nat.zero_add]
        · rw [e14, zw_sI_n (Or.inr hx), e11, zw_sI_n (Or.inl (Ne.symm dlm)), e9, zw_sI_n (Or.inl (Ne.symm dom)), e8, zw_sI_n (Or.inr hx), if_neg (Ne.symm hx)]
          exact vm b (by omega)
