theorem CW.frR {h h' : zw_H} {A : zA} (W : CW h A) (f : Fr pR h h') : CW h' A := by
  obtain ⟨w1, w2, w3, w4, w5, w6, w7⟩ := W
  exact ⟨w1, w2, w3.fr f (fun _ => by unfold pR; omega) (fun _ => by unfold pR; omega), w4.fr f (fun _ => by unfold pR; omega) (fun _ _ _ _ => by unfold pR; omega), w5.fr f (fun _ => by unfold pR; omega) (fun _ => by unfold pR; omega), w6.fr f (fun _ => by unfold pR; omega) (fun _ _ _ _ => by unfold pR; omega), w7.fr f (by unfold pR; omega) (fun _ _ _ _ => by unfold pR; omega)⟩
theorem RW.frC {h h' : zw_H} {A : zA} (W : RW h A) (f : Fr pC h h') : RW h' A := by
  obtain ⟨w1, w2, w3, w4, w5, w6⟩ := W
  exact ⟨w1, w2.fr f (by unfold pC; omega) (by unfold pC; omega) (fun _ => by unfold pC; omega) (fun _ => by unfold pC; omega), w3.fr f (fun _ => by unfold pC; omega), w4.fr f (fun _ => by unfold pC; omega) (by unfold pC; omega), w5.fr f (by unfold pC; omega) (fun _ _ => by unfold pC; omega), w6.fr f (by unfold pC; omega) (fun _ => by unfold pC; omega)⟩
theorem lp_C {α : Type} {h h1 : zw_H} {A : zA} {x F : α} (W : CW h A) (q : x = F ∧ h1 = h) : x = F ∧ CW h1 A ∧ Fr pC h h1 := ⟨q.1, by rw [q.2]; exact W, by rw [q.2]; exact Fr.rf⟩
theorem lp_R {α : Type} {h h1 : zw_H} {A : zA} {x F : α} (W : RW h A) (q : x = F ∧ h1 = h) : x = F ∧ RW h1 A ∧ Fr pR h h1 := ⟨q.1, by rw [q.2]; exact W, by rw [q.2]; exact Fr.rf⟩
/-- an int as a truth value, as the law turns it -/
def bz (x : Int32) : Int32 := if x = 0 then 0 else 1
def bo (x : Int32) : Bool := !(decide (x = 0))
theorem bz_o (x : Int32) : bz x = 0 ↔ bo x = false := by
  unfold bz bo
  by_cases h : x = 0
  · rw [if_pos h, decide_eq_true h]
    exact ⟨fun _ => rfl, fun _ => rfl⟩
  · rw [if_neg h, decide_eq_false h]
    exact ⟨fun z => absurd z (by decide), fun z => by cases z⟩
theorem bz_01 (x : Int32) : bz x = 0 ∨ bz x = 1 := by
  unfold bz
  by_cases h : x = 0
  · exact Or.inl (if_pos h)
  · exact Or.inr (if_neg h)
theorem lcmp0 {x y : Int64} (h : x = y) : lg_cmp x y = 0 := by
  subst h
  unfold lg_cmp
  rw [if_neg (show ¬ x > x from Int64.lt_irrefl), if_pos rfl]
def lQ : Option Value → zw_S → zw_H → Prop := fun r _ _ => r = some (.int 1)
abbrev lvL (i : Nat) : List (Nat × Value) := [(3, .int (nI i)), (2, .ref 56), (1, .ref 0), (0, .retAddr 2)]
abbrev zj (L : Nat) (xs : Nat → Int32) (pc : Nat) (st : List Value) (h : zw_H) (i : Nat) : Prop := zw (mL_law L xs) 8 66 5289 lQ pc (lvL i) st zSH h 66 5289
theorem zl_arg {L i : Nat} {xs : Nat → Int32} {st : List Value} {h : zw_H} {p p1 p2 p3 p4 np : Nat} {v : Int} (k : Nat) (d0 : decode cL_law p = .ok (.aload_n 0, 1)) (d1 : decode cL_law p1 = .ok (.iload_n 3, 1)) (d2 : decode cL_law p2 = .ok (.iconst v, 1)) (d3 : decode cL_law p3 = .ok (.iadd, 1)) (d4 : decode cL_law p4 = .ok (.iaload, 1)) (h1 : p + 1 = p1) (h2 : p1 + 1 = p2) (h3 : p2 + 1 = p3) (h4 : p3 + 1 = p4) (h5 : p4 + 1 = np) (hv : Int32.ofInt v = nI k) (hk : k < 5) (hi : i + 5 ≤ L) (hL : L ≤ 2560) (kk : zj L xs np (.int (xs (i + k)) :: st) h i) : zj L xs p st h i := by
  refine zw_aload_nT 3 d0 rfl rfl h1 ?_
  refine zw_iload_n 0 d1 rfl rfl h2 ?_
  refine zw_iconst d2 hv h3 ?_
  refine zw_iadd d3 h4 ?_
  rw [nI_add]
  exact zw_sld (i + k) (Nat.succ_ne_zero L) (show L < 2 ^ 31 by omega) d4 ⟨rfl, show i + k < L by omega⟩ h5 kk
theorem zl_bool {L i : Nat} {xs : Nat → Int32} {st : List Value} {h : zw_H} {p q1 q2 q3 np : Nat} {x : Int32} (d0 : decode cL_law p = .ok (.ifCond .eq 7, 3)) (d1 : decode cL_law q1 = .ok (.iconst 1, 1)) (d2 : decode cL_law q2 = .ok (.goto 4, 3)) (d3 : decode cL_law q3 = .ok (.iconst 0, 1)) (h1 : p + 3 = q1) (h2 : q1 + 1 = q2) (h3 : p + 7 = q3) (h4 : q3 + 1 = np) (kk : zj L xs np (.int (bz x) :: st) h i) : zj L xs p (.int x :: st) h i := by
  refine zw_if_eq (tg := q3) d0 (by omega) h1 (fun c => ?_) (fun c => ?_)
  · rw [bz, if_pos c] at kk
    exact zw_iconst (v := (0 : Int32)) d3 (by decide) h4 kk
  · rw [bz, if_neg c] at kk
    exact zw_iconst (v := (1 : Int32)) d1 (by decide) h2 (zw_goto (np := np) d2 (by omega) kk)
theorem li_head {L i : Nat} (hL : L ≤ 2560) (hi : i ≤ 2560) (c : ¬ (nI L - 5 < nI i)) : i + 5 ≤ L := by
  rw [Int32.lt_iff_toInt_lt] at c
  have e5 : (5 : Int32).toInt = 5 := by decide
  have eL := nI_toInt (show L < 2147483648 by omega)
  rw [fb_subI (by rw [e5, eL]; omega) (by rw [e5, eL]; omega), e5, eL, nI_toInt (by omega)] at c
  omega
