theorem zw_tp {w : Cond} (i : Nat) (h : tables_1[i]? = some w) (hg : goodWord w = true) : w ∈ zw_ts := List.mem_filter.mpr ⟨List.mem_append_right _ (List.mem_of_getElem? h), hg⟩
theorem zw_np {w : Cond} (i : Nat) (hg : (match w with | .fieldLinkNest _ _ _ _ _ _ => true | .methodLinkNest _ _ _ _ => true | _ => false) = true) (h : tables_1[i]? = some w) : w ∈ zw_nest := List.mem_filter.mpr ⟨List.mem_append_right _ (List.mem_of_getElem? h), hg⟩
theorem zw_sp {y : MethodName} (i : Nat) (h : (lw_privs[i]?).map (·.1) = some y) : Cond.selects y.cls y y ∈ zw_ts := by
  refine List.mem_filter.mpr ⟨List.mem_append_left _ ?_, rfl⟩
  cases hq : lw_privs[i]? with
  | none => rw [hq] at h; cases h
  | some q =>
    rw [hq] at h
    cases h
    exact List.mem_map.mpr ⟨q, List.mem_of_getElem? hq, rfl⟩
def zw_hist : Nat → Option Nat := fun j => if j < 10 then some (2 * j + 5) else none
def zSH : zw_S := [.inl (7, [some (some 1), some (some 3), some (some 25), some (some 27), some (some 37), some (some 43), some (some 48), some (some 51), some (some 54), some (some 55)]), .inl (5, [some (some 2), none, none, none, none, none, none]), .inr (0, 8, fun _ => none), .inl (1, [some (some 4), none, none]), .inr (3, 10, zw_hist), .inl (5, [some (some 6), none, none, none, none, none, none]), .inr (0, 8, fun _ => none), .inl (5, [some (some 8), none, none, none, none, none, none]), .inr (0, 8, fun _ => none), .inl (5, [some (some 10), none, none, none, none, none, none]), .inr (0, 8, fun _ => none), .inl (5, [some (some 12), none, none, none, none, none, none]), .inr (0, 8, fun _ => none), .inl (5, [some (some 14), none, none, none, none, none, none]), .inr (0, 8, fun _ => none), .inl (5, [some (some 16), none, none, none, none, none, none]), .inr (0, 8, fun _ => none), .inl (5, [some (some 18), none, none, none, none, none, none]), .inr (0, 8, fun _ => none), .inl (5, [some (some 20), none, none, none, none, none, none]), .inr (0, 8, fun _ => none), .inl (5, [some (some 22), none, none, none, none, none, none]), .inr (0, 8, fun _ => none), .inl (5, [some (some 24), none, none, none, none, none, none]), .inr (0, 8, fun _ => none), .inl (6, [some (some 26), none]), .inr (0, 20, fun _ => none), .inl (0, [some (some 28), some (some 29), some (some 30), some (some 31), some (some 32), some (some 33), some (some 34), none, none]), .inr (0, 203, fun _ => none), .inr (0, 203, fun _ => none), .inr (0, 203, fun _ => none), .inr (0, 203, fun _ => none), .inr (1, 203, fun _ => none), .inr (0, 6, fun _ => none), .inl (3, [some (some 35), some (some 36), none, none]), .inr (0, 6, fun _ => none), .inr (0, 6, fun _ => none), .inl (2, [some (some 38), some (some 39), some (some 40), some (some 41), some (some 42), none, none]), .inr (0, 203, fun _ => none), .inr (0, 203, fun _ => none), .inr (0, 203, fun _ => none), .inr (0, 7, fun _ => none), .inr (0, 203, fun _ => none), .inl (4, [some (some 44), some (some 45), some (some 46), some (some 47), none]), .inr (0, 203, fun _ => none), .inr (0, 203, fun _ => none), .inr (2, 203, fun _ => none), .inr (0, 203, fun _ => none), .inl (3, [some (some 49), some (some 50), none, none]), .inr (0, 6, fun _ => none), .inr (0, 6, fun _ => none), .inl (3, [some (some 52), some (some 53), none, none]), .inr (0, 6, fun _ => none), .inr (0, 6, fun _ => none), .inr (0, 6, fun _ => none), .inr (0, 64, fun _ => none), .inl (8, [some (some 57), none, some (some 58), none, some (some 59), some (some 60), some (some 61), none, none, some (some 62), none, some (some 63), some (some 64), some (some 65)]), .inr (0, 154, fun _ => none), .inr (0, 20, fun _ => none), .inr (0, 1218, fun _ => none), .inr (0, 203, fun _ => none), .inr (0, 203, fun _ => none), .inr (0, 6, fun _ => none), .inr (2, 203, fun _ => none), .inr (2, 203, fun _ => none), .inr (0, 64, fun _ => none)]
theorem zs_0 : zSH[0]? = some (.inl (7, [some (some 1), some (some 3), some (some 25), some (some 27), some (some 37), some (some 43), some (some 48), some (some 51), some (some 54), some (some 55)])) := rfl
theorem zs_1 : zSH[1]? = some (.inl (5, [some (some 2), none, none, none, none, none, none])) := rfl
theorem zs_2 : zSH[2]? = some (.inr (0, 8, fun _ => none)) := rfl
theorem zs_3 : zSH[3]? = some (.inl (1, [some (some 4), none, none])) := rfl
theorem zs_4 : zSH[4]? = some (.inr (3, 10, zw_hist)) := rfl
theorem zs_5 : zSH[5]? = some (.inl (5, [some (some 6), none, none, none, none, none, none])) := rfl
theorem zs_6 : zSH[6]? = some (.inr (0, 8, fun _ => none)) := rfl
theorem zs_7 : zSH[7]? = some (.inl (5, [some (some 8), none, none, none, none, none, none])) := rfl
theorem zs_8 : zSH[8]? = some (.inr (0, 8, fun _ => none)) := rfl
theorem zs_9 : zSH[9]? = some (.inl (5, [some (some 10), none, none, none, none, none, none])) := rfl
theorem zs_10 : zSH[10]? = some (.inr (0, 8, fun _ => none)) := rfl
theorem zs_11 : zSH[11]? = some (.inl (5, [some (some 12), none, none, none, none, none, none])) := rfl
theorem zs_12 : zSH[12]? = some (.inr (0, 8, fun _ => none)) := rfl
theorem zs_13 : zSH[13]? = some (.inl (5, [some (some 14), none, none, none, none, none, none])) := rfl
theorem zs_14 : zSH[14]? = some (.inr (0, 8, fun _ => none)) := rfl
theorem zs_15 : zSH[15]? = some (.inl (5, [some (some 16), none, none, none, none, none, none])) := rfl
theorem zs_16 : zSH[16]? = some (.inr (0, 8, fun _ => none)) := rfl
theorem zs_17 : zSH[17]? = some (.inl (5, [some (some 18), none, none, none, none, none, none])) := rfl
theorem zs_18 : zSH[18]? = some (.inr (0, 8, fun _ => none)) := rfl
theorem zs_19 : zSH[19]? = some (.inl (5, [some (some 20), none, none, none, none, none, none])) := rfl
theorem zs_20 : zSH[20]? = some (.inr (0, 8, fun _ => none)) := rfl
theorem zs_21 : zSH[21]? = some (.inl (5, [some (some 22), none, none, none, none, none, none])) := rfl
theorem zs_22 : zSH[22]? = some (.inr (0, 8, fun _ => none)) := rfl
theorem zs_23 : zSH[23]? = some (.inl (5, [some (some 24), none, none, none, none, none, none])) := rfl
theorem zs_24 : zSH[24]? = some (.inr (0, 8, fun _ => none)) := rfl
theorem zs_25 : zSH[25]? = some (.inl (6, [some (some 26), none])) := rfl
theorem zs_26 : zSH[26]? = some (.inr (0, 20, fun _ => none)) := rfl
theorem zs_27 : zSH[27]? = some (.inl (0, [some (some 28), some (some 29), some (some 30), some (some 31), some (some 32), some (some 33), some (some 34), none, none])) := rfl
theorem zs_28 : zSH[28]? = some (.inr (0, 203, fun _ => none)) := rfl
theorem zs_29 : zSH[29]? = some (.inr (0, 203, fun _ => none)) := rfl
theorem zs_30 : zSH[30]? = some (.inr (0, 203, fun _ => none)) := rfl
theorem zs_31 : zSH[31]? = some (.inr (0, 203, fun _ => none)) := rfl
theorem zs_32 : zSH[32]? = some (.inr (1, 203, fun _ => none)) := rfl
theorem zs_33 : zSH[33]? = some (.inr (0, 6, fun _ => none)) := rfl
theorem zs_34 : zSH[34]? = some (.inl (3, [some (some 35), some (some 36), none, none])) := rfl
theorem zs_35 : zSH[35]? = some (.inr (0, 6, fun _ => none)) := rfl
theorem zs_36 : zSH[36]? = some (.inr (0, 6, fun _ => none)) := rfl
theorem zs_37 : zSH[37]? = some (.inl (2, [some (some 38), some (some 39), some (some 40), some (some 41), some (some 42), none, none])) := rfl
theorem zs_38 : zSH[38]? = some (.inr (0, 203, fun _ => none)) := rfl
theorem zs_39 : zSH[39]? = some (.inr (0, 203, fun _ => none)) := rfl
theorem zs_40 : zSH[40]? = some (.inr (0, 203, fun _ => none)) := rfl
theorem zs_41 : zSH[41]? = some (.inr (0, 7, fun _ => none)) := rfl
theorem zs_42 : zSH[42]? = some (.inr (0, 203, fun _ => none)) := rfl
theorem zs_43 : zSH[43]? = some (.inl (4, [some (some 44), some (some 45), some (some 46), some (some 47), none])) := rfl
theorem zs_44 : zSH[44]? = some (.inr (0, 203, fun _ => none)) := rfl
theorem zs_45 : zSH[45]? = some (.inr (0, 203, fun _ => none)) := rfl
theorem zs_46 : zSH[46]? = some (.inr (2, 203, fun _ => none)) := rfl
theorem zs_47 : zSH[47]? = some (.inr (0, 203, fun _ => none)) := rfl
theorem zs_48 : zSH[48]? = some (.inl (3, [some (some 49), some (some 50), none, none])) := rfl
theorem zs_49 : zSH[49]? = some (.inr (0, 6, fun _ => none)) := rfl
theorem zs_50 : zSH[50]? = some (.inr (0, 6, fun _ => none)) := rfl
theorem zs_51 : zSH[51]? = some (.inl (3, [some (some 52), some (some 53), none, none])) := rfl
theorem zs_52 : zSH[52]? = some (.inr (0, 6, fun _ => none)) := rfl
theorem zs_53 : zSH[53]? = some (.inr (0, 6, fun _ => none)) := rfl
theorem zs_54 : zSH[54]? = some (.inr (0, 6, fun _ => none)) := rfl
theorem zs_55 : zSH[55]? = some (.inr (0, 64, fun _ => none)) := rfl
theorem zs_56 : zSH[56]? = some (.inl (8, [some (some 57), none, some (some 58), none, some (some 59), some (some 60), some (some 61), none, none, some (some 62), none, some (some 63), some (some 64), some (some 65)])) := rfl
theorem zs_57 : zSH[57]? = some (.inr (0, 154, fun _ => none)) := rfl
theorem zs_58 : zSH[58]? = some (.inr (0, 20, fun _ => none)) := rfl
theorem zs_59 : zSH[59]? = some (.inr (0, 1218, fun _ => none)) := rfl
theorem zs_60 : zSH[60]? = some (.inr (0, 203, fun _ => none)) := rfl
theorem zs_61 : zSH[61]? = some (.inr (0, 203, fun _ => none)) := rfl
theorem zs_62 : zSH[62]? = some (.inr (0, 6, fun _ => none)) := rfl
theorem zs_63 : zSH[63]? = some (.inr (2, 203, fun _ => none)) := rfl
theorem zs_64 : zSH[64]? = some (.inr (2, 203, fun _ => none)) := rfl
theorem zs_65 : zSH[65]? = some (.inr (0, 64, fun _ => none)) := rfl
theorem zs_hf {j : Nat} (h : j < 10) : zw_hist j = some (2 * j + 5) := if_pos h
theorem zs_ten {j : Nat} (h : j < 10) : j = 0 ∨ j = 1 ∨ j = 2 ∨ j = 3 ∨ j = 4 ∨ j = 5 ∨ j = 6 ∨ j = 7 ∨ j = 8 ∨ j = 9 := by omega
theorem zs_hS {j : Nat} (h : j < 10) : zSH[2 * j + 5]? = some (.inl (5, [some (some (2 * j + 6)), none, none, none, none, none, none])) := by
  rcases zs_ten h with rfl | rfl | rfl | rfl | rfl | rfl | rfl | rfl | rfl | rfl <;> rfl
theorem zs_hR {j : Nat} (h : j < 10) : zSH[2 * j + 6]? = some (.inr (0, 8, fun _ => none)) := by
  rcases zs_ten h with rfl | rfl | rfl | rfl | rfl | rfl | rfl | rfl | rfl | rfl <;> rfl
theorem zw.st {M : zw_M} {d mc ms : Nat} {Q : Option Value → zw_S → zw_H → Prop} {pc : Nat} {lv : List (Nat × Value)} {st st' : List Value} {sh : zw_S} {h : zw_H} {ck cs : Nat} (hs : st = st') (k : zw M d mc ms Q pc lv st' sh h ck cs) : zw M d mc ms Q pc lv st sh h ck cs := by subst hs; exact k
theorem zw_nb {x : Int32} (h : x = 0 ∨ x = 1) : narrow .boolean (.int x) = .int x ∧ fits .boolean (.int x) = true := by rcases h with rfl | rfl <;> exact ⟨rfl, rfl⟩
abbrev zcI (d : Nat) (M : zw_M) (as : List Value) (h : zw_H) (q : Int32 → zw_H → Prop) : Prop := zc d 0 0 M as zSH h (zw_qI q zSH)
abbrev zcL (d : Nat) (M : zw_M) (as : List Value) (h : zw_H) (q : Int64 → zw_H → Prop) : Prop := zc d 0 0 M as zSH h (zw_qL q zSH)
abbrev zcV (d : Nat) (M : zw_M) (as : List Value) (h : zw_H) (q : zw_H → Prop) : Prop := zc d 0 0 M as zSH h (zw_qV q zSH)
abbrev zwI (d : Nat) (M : zw_M) (q : Int32 → zw_H → Prop) (pc : Nat) (lv : List (Nat × Value)) (st : List Value) (h : zw_H) : Prop := zw M d 0 0 (zw_qI q zSH) pc lv st zSH h 0 0
abbrev zwL (d : Nat) (M : zw_M) (q : Int64 → zw_H → Prop) (pc : Nat) (lv : List (Nat × Value)) (st : List Value) (h : zw_H) : Prop := zw M d 0 0 (zw_qL q zSH) pc lv st zSH h 0 0
abbrev zwV (d : Nat) (M : zw_M) (q : zw_H → Prop) (pc : Nat) (lv : List (Nat × Value)) (st : List Value) (h : zw_H) : Prop := zw M d 0 0 (zw_qV q zSH) pc lv st zSH h 0 0
theorem zw_r15 {x : Int32} {lo hi : Int} (h : ¬ (x.toInt < lo ∨ hi < x.toInt)) : lo ≤ x.toInt ∧ x.toInt ≤ hi := by omega
theorem zw_eqI {x : Int32} {n : Int} {k : Int32} (h : x.toInt = n) (hk : k.toInt = n) : x = k := Int32.toInt_inj.mp (h.trans hk.symm)
theorem cl_X0 : zw_cls RX0 TX0 9 tyX0 := ⟨tyX0_ok, nmX0⟩
theorem in_X0 : ∀ w ∈ u_ws RX0 TX0 9, w ∈ zw_ts := by decide +kernel
theorem cl_X1 : zw_cls RX1 TX1 3 tyX1 := ⟨tyX1_ok, nmX1⟩
theorem in_X1 : ∀ w ∈ u_ws RX1 TX1 3, w ∈ zw_ts := by decide +kernel
theorem cl_X2 : zw_cls RX2 TX2 7 tyX2 := ⟨tyX2_ok, nmX2⟩
theorem in_X2 : ∀ w ∈ u_ws RX2 TX2 7, w ∈ zw_ts := by decide +kernel
theorem cl_X3 : zw_cls RX3 TX3 4 tyX3 := ⟨tyX3_ok, nmX3⟩
theorem in_X3 : ∀ w ∈ u_ws RX3 TX3 4, w ∈ zw_ts := by decide +kernel
theorem cl_X4 : zw_cls RX4 TX4 5 tyX4 := ⟨tyX4_ok, nmX4⟩
theorem in_X4 : ∀ w ∈ u_ws RX4 TX4 5, w ∈ zw_ts := by decide +kernel
theorem cl_X5 : zw_cls RX5 TX5 7 tyX5 := ⟨tyX5_ok, nmX5⟩
theorem in_X5 : ∀ w ∈ u_ws RX5 TX5 7, w ∈ zw_ts := by decide +kernel
theorem cl_X6 : zw_cls RX6 TX6 2 tyX6 := ⟨tyX6_ok, nmX6⟩
theorem in_X6 : ∀ w ∈ u_ws RX6 TX6 2, w ∈ zw_ts := by decide +kernel
theorem cl_X7 : zw_cls RX7 TX7 10 tyX7 := ⟨tyX7_ok, nmX7⟩
theorem in_X7 : ∀ w ∈ u_ws RX7 TX7 10, w ∈ zw_ts := by decide +kernel
theorem cl_X8 : zw_cls RX8 TX8 14 tyX8 := ⟨tyX8_ok, nmX8⟩
theorem in_X8 : ∀ w ∈ u_ws RX8 TX8 14, w ∈ zw_ts := by decide +kernel
theorem f_X0_9 : zw_fld RX0 9 0 0 RX0 TX0 9 := ⟨rfl, in_X0, by decide, rfl, zw_tp 120 (by decide +kernel) rfl⟩
theorem f_X0_15 : zw_fld RX0 15 0 1 RX0 TX0 9 := ⟨rfl, in_X0, by decide, rfl, zw_tp 122 (by decide +kernel) rfl⟩
theorem f_X0_18 : zw_fld RX0 18 0 2 RX0 TX0 9 := ⟨rfl, in_X0, by decide, rfl, zw_tp 124 (by decide +kernel) rfl⟩
theorem f_X0_21 : zw_fld RX0 21 0 3 RX0 TX0 9 := ⟨rfl, in_X0, by decide, rfl, zw_tp 126 (by decide +kernel) rfl⟩
theorem f_X0_24 : zw_fld RX0 24 0 4 RX0 TX0 9 := ⟨rfl, in_X0, by decide, rfl, zw_tp 128 (by decide +kernel) rfl⟩
theorem f_X0_28 : zw_fld RX0 28 0 5 RX0 TX0 9 := ⟨rfl, in_X0, by decide, rfl, zw_tp 130 (by decide +kernel) rfl⟩
theorem f_X0_34 : zw_fld RX0 34 0 6 RX0 TX0 9 := ⟨rfl, in_X0, by decide, rfl, zw_tp 131 (by decide +kernel) rfl⟩
theorem f_X0_38 : zw_fld RX0 38 0 7 RX0 TX0 9 := ⟨rfl, in_X0, by decide, rfl, zw_tp 132 (by decide +kernel) rfl⟩
theorem f_X0_52 : zw_fld RX0 52 0 8 RX0 TX0 9 := ⟨rfl, in_X0, by decide, rfl, zw_tp 134 (by decide +kernel) rfl⟩
theorem f_X0_73 : zw_fld RX0 73 3 3 RX3 TX3 4 := ⟨rfl, in_X3, by decide, rfl, zw_tp 108 (by decide +kernel) rfl⟩
theorem f_X1_11 : zw_fld RX1 11 1 0 RX1 TX1 3 := ⟨rfl, in_X1, by decide, rfl, zw_tp 65 (by decide +kernel) rfl⟩
theorem f_X1_18 : zw_fld RX1 18 1 1 RX1 TX1 3 := ⟨rfl, in_X1, by decide, rfl, zw_tp 66 (by decide +kernel) rfl⟩
theorem f_X1_26 : zw_fld RX1 26 1 2 RX1 TX1 3 := ⟨rfl, in_X1, by decide, rfl, zw_tp 67 (by decide +kernel) rfl⟩
theorem f_X2_9 : zw_fld RX2 9 2 0 RX2 TX2 7 := ⟨rfl, in_X2, by decide, rfl, zw_tp 160 (by decide +kernel) rfl⟩
theorem f_X2_15 : zw_fld RX2 15 2 1 RX2 TX2 7 := ⟨rfl, in_X2, by decide, rfl, zw_tp 163 (by decide +kernel) rfl⟩
theorem f_X2_18 : zw_fld RX2 18 2 2 RX2 TX2 7 := ⟨rfl, in_X2, by decide, rfl, zw_tp 164 (by decide +kernel) rfl⟩
theorem f_X2_21 : zw_fld RX2 21 2 3 RX2 TX2 7 := ⟨rfl, in_X2, by decide, rfl, zw_tp 166 (by decide +kernel) rfl⟩
theorem f_X2_24 : zw_fld RX2 24 2 4 RX2 TX2 7 := ⟨rfl, in_X2, by decide, rfl, zw_tp 168 (by decide +kernel) rfl⟩
theorem f_X2_27 : zw_fld RX2 27 2 5 RX2 TX2 7 := ⟨rfl, in_X2, by decide, rfl, zw_tp 170 (by decide +kernel) rfl⟩
theorem f_X2_31 : zw_fld RX2 31 0 8 RX0 TX0 9 := ⟨rfl, in_X0, by decide, rfl, zw_tp 133 (by decide +kernel) rfl⟩
theorem f_X2_34 : zw_fld RX2 34 0 3 RX0 TX0 9 := ⟨rfl, in_X0, by decide, rfl, zw_tp 127 (by decide +kernel) rfl⟩
theorem f_X2_35 : zw_fld RX2 35 0 0 RX0 TX0 9 := ⟨rfl, in_X0, by decide, rfl, zw_tp 121 (by decide +kernel) rfl⟩
theorem f_X2_36 : zw_fld RX2 36 0 2 RX0 TX0 9 := ⟨rfl, in_X0, by decide, rfl, zw_tp 125 (by decide +kernel) rfl⟩
theorem f_X2_39 : zw_fld RX2 39 0 4 RX0 TX0 9 := ⟨rfl, in_X0, by decide, rfl, zw_tp 129 (by decide +kernel) rfl⟩
theorem f_X2_49 : zw_fld RX2 49 0 1 RX0 TX0 9 := ⟨rfl, in_X0, by decide, rfl, zw_tp 123 (by decide +kernel) rfl⟩
theorem f_X2_50 : zw_fld RX2 50 2 6 RX2 TX2 7 := ⟨rfl, in_X2, by decide, rfl, zw_tp 173 (by decide +kernel) rfl⟩
theorem f_X3_9 : zw_fld RX3 9 3 0 RX3 TX3 4 := ⟨rfl, in_X3, by decide, rfl, zw_tp 102 (by decide +kernel) rfl⟩
theorem f_X3_15 : zw_fld RX3 15 3 1 RX3 TX3 4 := ⟨rfl, in_X3, by decide, rfl, zw_tp 104 (by decide +kernel) rfl⟩
theorem f_X3_24 : zw_fld RX3 24 3 2 RX3 TX3 4 := ⟨rfl, in_X3, by decide, rfl, zw_tp 106 (by decide +kernel) rfl⟩
theorem f_X3_28 : zw_fld RX3 28 3 3 RX3 TX3 4 := ⟨rfl, in_X3, by decide, rfl, zw_tp 107 (by decide +kernel) rfl⟩
theorem f_X4_9 : zw_fld RX4 9 4 0 RX4 TX4 5 := ⟨rfl, in_X4, by decide, rfl, zw_tp 196 (by decide +kernel) rfl⟩
theorem f_X4_15 : zw_fld RX4 15 4 1 RX4 TX4 5 := ⟨rfl, in_X4, by decide, rfl, zw_tp 197 (by decide +kernel) rfl⟩
theorem f_X4_18 : zw_fld RX4 18 4 2 RX4 TX4 5 := ⟨rfl, in_X4, by decide, rfl, zw_tp 199 (by decide +kernel) rfl⟩
theorem f_X4_22 : zw_fld RX4 22 4 3 RX4 TX4 5 := ⟨rfl, in_X4, by decide, rfl, zw_tp 201 (by decide +kernel) rfl⟩
theorem f_X4_25 : zw_fld RX4 25 4 4 RX4 TX4 5 := ⟨rfl, in_X4, by decide, rfl, zw_tp 202 (by decide +kernel) rfl⟩
theorem f_X4_29 : zw_fld RX4 29 2 5 RX2 TX2 7 := ⟨rfl, in_X2, by decide, rfl, zw_tp 171 (by decide +kernel) rfl⟩
theorem f_X4_32 : zw_fld RX4 32 2 0 RX2 TX2 7 := ⟨rfl, in_X2, by decide, rfl, zw_tp 161 (by decide +kernel) rfl⟩
theorem f_X4_37 : zw_fld RX4 37 2 2 RX2 TX2 7 := ⟨rfl, in_X2, by decide, rfl, zw_tp 165 (by decide +kernel) rfl⟩
theorem f_X5_9 : zw_fld RX5 9 5 0 RX5 TX5 7 := ⟨rfl, in_X5, by decide, rfl, zw_tp 26 (by decide +kernel) rfl⟩
theorem f_X5_15 : zw_fld RX5 15 5 1 RX5 TX5 7 := ⟨rfl, in_X5, by decide, rfl, zw_tp 29 (by decide +kernel) rfl⟩
theorem f_X5_19 : zw_fld RX5 19 5 2 RX5 TX5 7 := ⟨rfl, in_X5, by decide, rfl, zw_tp 30 (by decide +kernel) rfl⟩
theorem f_X5_22 : zw_fld RX5 22 5 3 RX5 TX5 7 := ⟨rfl, in_X5, by decide, rfl, zw_tp 32 (by decide +kernel) rfl⟩
theorem f_X5_25 : zw_fld RX5 25 5 4 RX5 TX5 7 := ⟨rfl, in_X5, by decide, rfl, zw_tp 34 (by decide +kernel) rfl⟩
theorem f_X5_28 : zw_fld RX5 28 5 5 RX5 TX5 7 := ⟨rfl, in_X5, by decide, rfl, zw_tp 36 (by decide +kernel) rfl⟩
theorem f_X5_31 : zw_fld RX5 31 5 6 RX5 TX5 7 := ⟨rfl, in_X5, by decide, rfl, zw_tp 38 (by decide +kernel) rfl⟩
theorem f_X6_9 : zw_fld RX6 9 6 0 RX6 TX6 2 := ⟨rfl, in_X6, by decide, rfl, zw_tp 82 (by decide +kernel) rfl⟩
theorem f_X6_15 : zw_fld RX6 15 6 1 RX6 TX6 2 := ⟨rfl, in_X6, by decide, rfl, zw_tp 83 (by decide +kernel) rfl⟩
theorem f_X7_10 : zw_fld RX7 10 7 0 RX7 TX7 10 := ⟨rfl, in_X7, by decide, rfl, zw_tp 297 (by decide +kernel) rfl⟩
theorem f_X7_19 : zw_fld RX7 19 7 1 RX7 TX7 10 := ⟨rfl, in_X7, by decide, rfl, zw_tp 298 (by decide +kernel) rfl⟩
theorem f_X7_26 : zw_fld RX7 26 7 2 RX7 TX7 10 := ⟨rfl, in_X7, by decide, rfl, zw_tp 299 (by decide +kernel) rfl⟩
theorem f_X7_33 : zw_fld RX7 33 7 3 RX7 TX7 10 := ⟨rfl, in_X7, by decide, rfl, zw_tp 300 (by decide +kernel) rfl⟩
theorem f_X7_40 : zw_fld RX7 40 7 4 RX7 TX7 10 := ⟨rfl, in_X7, by decide, rfl, zw_tp 301 (by decide +kernel) rfl⟩
theorem f_X7_47 : zw_fld RX7 47 7 5 RX7 TX7 10 := ⟨rfl, in_X7, by decide, rfl, zw_tp 302 (by decide +kernel) rfl⟩
theorem f_X7_54 : zw_fld RX7 54 7 6 RX7 TX7 10 := ⟨rfl, in_X7, by decide, rfl, zw_tp 303 (by decide +kernel) rfl⟩
theorem f_X7_58 : zw_fld RX7 58 7 7 RX7 TX7 10 := ⟨rfl, in_X7, by decide, rfl, zw_tp 304 (by decide +kernel) rfl⟩
theorem f_X7_61 : zw_fld RX7 61 7 8 RX7 TX7 10 := ⟨rfl, in_X7, by decide, rfl, zw_tp 305 (by decide +kernel) rfl⟩
theorem f_X7_65 : zw_fld RX7 65 7 9 RX7 TX7 10 := ⟨rfl, in_X7, by decide, rfl, zw_tp 306 (by decide +kernel) rfl⟩
theorem f_X7_75 : zw_fld RX7 75 5 1 RX5 TX5 7 := ⟨rfl, in_X5, by decide, rfl, zw_tp 28 (by decide +kernel) rfl⟩
theorem f_X7_83 : zw_fld RX7 83 5 2 RX5 TX5 7 := ⟨rfl, in_X5, by decide, rfl, zw_tp 31 (by decide +kernel) rfl⟩
theorem f_X7_90 : zw_fld RX7 90 5 3 RX5 TX5 7 := ⟨rfl, in_X5, by decide, rfl, zw_tp 33 (by decide +kernel) rfl⟩
theorem f_X7_101 : zw_fld RX7 101 5 4 RX5 TX5 7 := ⟨rfl, in_X5, by decide, rfl, zw_tp 35 (by decide +kernel) rfl⟩
theorem f_X7_104 : zw_fld RX7 104 5 5 RX5 TX5 7 := ⟨rfl, in_X5, by decide, rfl, zw_tp 37 (by decide +kernel) rfl⟩
theorem f_X7_107 : zw_fld RX7 107 5 6 RX5 TX5 7 := ⟨rfl, in_X5, by decide, rfl, zw_tp 39 (by decide +kernel) rfl⟩
theorem f_X7_114 : zw_fld RX7 114 6 1 RX6 TX6 2 := ⟨rfl, in_X6, by decide, rfl, zw_tp 84 (by decide +kernel) rfl⟩
theorem f_X7_133 : zw_fld RX7 133 5 0 RX5 TX5 7 := ⟨rfl, in_X5, by decide, rfl, zw_tp 27 (by decide +kernel) rfl⟩
theorem f_X7_158 : zw_fld RX7 158 2 0 RX2 TX2 7 := ⟨rfl, in_X2, by decide, rfl, zw_tp 162 (by decide +kernel) rfl⟩
theorem f_X7_173 : zw_fld RX7 173 2 5 RX2 TX2 7 := ⟨rfl, in_X2, by decide, rfl, zw_tp 172 (by decide +kernel) rfl⟩
theorem f_X7_180 : zw_fld RX7 180 3 0 RX3 TX3 4 := ⟨rfl, in_X3, by decide, rfl, zw_tp 103 (by decide +kernel) rfl⟩
theorem f_X7_183 : zw_fld RX7 183 3 3 RX3 TX3 4 := ⟨rfl, in_X3, by decide, rfl, zw_tp 109 (by decide +kernel) rfl⟩
theorem f_X7_186 : zw_fld RX7 186 3 1 RX3 TX3 4 := ⟨rfl, in_X3, by decide, rfl, zw_tp 105 (by decide +kernel) rfl⟩
theorem f_X7_214 : zw_fld RX7 214 2 3 RX2 TX2 7 := ⟨rfl, in_X2, by decide, rfl, zw_tp 167 (by decide +kernel) rfl⟩
theorem f_X7_228 : zw_fld RX7 228 2 6 RX2 TX2 7 := ⟨rfl, in_X2, by decide, rfl, zw_tp 174 (by decide +kernel) rfl⟩
theorem f_X7_235 : zw_fld RX7 235 2 4 RX2 TX2 7 := ⟨rfl, in_X2, by decide, rfl, zw_tp 169 (by decide +kernel) rfl⟩
theorem f_X7_242 : zw_fld RX7 242 4 4 RX4 TX4 5 := ⟨rfl, in_X4, by decide, rfl, zw_tp 203 (by decide +kernel) rfl⟩
theorem f_X7_264 : zw_fld RX7 264 4 1 RX4 TX4 5 := ⟨rfl, in_X4, by decide, rfl, zw_tp 198 (by decide +kernel) rfl⟩
theorem f_X7_271 : zw_fld RX7 271 4 2 RX4 TX4 5 := ⟨rfl, in_X4, by decide, rfl, zw_tp 200 (by decide +kernel) rfl⟩
theorem f_X7_293 : zw_fld RX7 293 1 2 RX1 TX1 3 := ⟨rfl, in_X1, by decide, rfl, zw_tp 68 (by decide +kernel) rfl⟩
theorem f_X8_7 : zw_fld RX8 7 8 0 RX8 TX8 14 := ⟨rfl, in_X8, by decide, rfl, zw_tp 803 (by decide +kernel) rfl⟩
theorem f_X8_13 : zw_fld RX8 13 8 2 RX8 TX8 14 := ⟨rfl, in_X8, by decide, rfl, zw_tp 805 (by decide +kernel) rfl⟩
theorem f_X8_16 : zw_fld RX8 16 8 4 RX8 TX8 14 := ⟨rfl, in_X8, by decide, rfl, zw_tp 807 (by decide +kernel) rfl⟩
theorem f_X8_19 : zw_fld RX8 19 8 5 RX8 TX8 14 := ⟨rfl, in_X8, by decide, rfl, zw_tp 808 (by decide +kernel) rfl⟩
theorem f_X8_22 : zw_fld RX8 22 8 6 RX8 TX8 14 := ⟨rfl, in_X8, by decide, rfl, zw_tp 809 (by decide +kernel) rfl⟩
theorem f_X8_25 : zw_fld RX8 25 8 9 RX8 TX8 14 := ⟨rfl, in_X8, by decide, rfl, zw_tp 812 (by decide +kernel) rfl⟩
theorem f_X8_28 : zw_fld RX8 28 8 11 RX8 TX8 14 := ⟨rfl, in_X8, by decide, rfl, zw_tp 814 (by decide +kernel) rfl⟩
theorem f_X8_32 : zw_fld RX8 32 8 12 RX8 TX8 14 := ⟨rfl, in_X8, by decide, rfl, zw_tp 815 (by decide +kernel) rfl⟩
theorem f_X8_35 : zw_fld RX8 35 8 13 RX8 TX8 14 := ⟨rfl, in_X8, by decide, rfl, zw_tp 816 (by decide +kernel) rfl⟩
theorem f_X8_48 : zw_fld RX8 48 8 1 RX8 TX8 14 := ⟨rfl, in_X8, by decide, rfl, zw_tp 804 (by decide +kernel) rfl⟩
theorem f_X8_52 : zw_fld RX8 52 8 7 RX8 TX8 14 := ⟨rfl, in_X8, by decide, rfl, zw_tp 810 (by decide +kernel) rfl⟩
theorem f_X8_59 : zw_fld RX8 59 8 8 RX8 TX8 14 := ⟨rfl, in_X8, by decide, rfl, zw_tp 811 (by decide +kernel) rfl⟩
theorem f_X8_112 : zw_fld RX8 112 8 3 RX8 TX8 14 := ⟨rfl, in_X8, by decide, rfl, zw_tp 806 (by decide +kernel) rfl⟩
theorem f_X8_179 : zw_fld RX8 179 8 10 RX8 TX8 14 := ⟨rfl, in_X8, by decide, rfl, zw_tp 813 (by decide +kernel) rfl⟩
abbrev mX0_init : zw_M := (yX0_init, cX0_init, 1, none, 0, fun _ => 0)
theorem my_X0_init : zw_my mX0_init 0 := ⟨zw_tp 94 (by decide +kernel) rfl, zw_tp 5 (by decide +kernel) rfl, by decide, by decide +kernel⟩
abbrev mX0_fill : zw_M := (yX0_fill, cX0_fill, 4, none, 0, fun _ => 0)
theorem my_X0_fill : zw_my mX0_fill 1 := ⟨zw_tp 229 (by decide +kernel) rfl, zw_tp 5 (by decide +kernel) rfl, by decide, by decide +kernel⟩
abbrev mX0_enter : zw_M := (yX0_enter, cX0_enter, 2, none, 0, fun _ => 0)
theorem my_X0_enter : zw_my mX0_enter 1 := ⟨zw_tp 236 (by decide +kernel) rfl, zw_tp 5 (by decide +kernel) rfl, by decide, by decide +kernel⟩
abbrev mX0_pairsOfGrowth : zw_M := (yX0_pairsOfGrowth, cX0_pairsOfGrowth, 3, some .int, 0, fun _ => 0)
theorem my_X0_pairsOfGrowth : zw_my mX0_pairsOfGrowth 0 := ⟨zw_tp 240 (by decide +kernel) rfl, zw_tp 5 (by decide +kernel) rfl, by decide, by decide +kernel⟩
abbrev mX0_advance : zw_M := (yX0_advance, cX0_advance, 2, some .boolean, 0, fun _ => 0)
theorem my_X0_advance : zw_my mX0_advance 0 := ⟨zw_tp 281 (by decide +kernel) rfl, zw_tp 5 (by decide +kernel) rfl, by decide, by decide +kernel⟩
abbrev mX0_greatestBefore : zw_M := (yX0_greatestBefore, cX0_greatestBefore, 4, some .int, 0, fun _ => 0)
theorem my_X0_greatestBefore : zw_my mX0_greatestBefore 1 := ⟨zw_tp 285 (by decide +kernel) rfl, zw_tp 5 (by decide +kernel) rfl, by decide, by decide +kernel⟩
abbrev mX0_closure : zw_M := (yX0_closure, cX0_closure, 3, some .int, 0, fun _ => 0)
theorem my_X0_closure : zw_my mX0_closure 1 := ⟨zw_tp 435 (by decide +kernel) rfl, zw_tp 5 (by decide +kernel) rfl, by decide, by decide +kernel⟩
abbrev mX1_init : zw_M := (yX1_init, cX1_init, 2, none, 0, fun _ => 0)
theorem my_X1_init : zw_my mX1_init 0 := ⟨zw_tp 60 (by decide +kernel) rfl, zw_tp 3 (by decide +kernel) rfl, by decide, by decide +kernel⟩
abbrev mX1_remember : zw_M := (yX1_remember, cX1_remember, 2, none, 0, fun _ => 0)
theorem my_X1_remember : zw_my mX1_remember 1 := ⟨zw_tp 335 (by decide +kernel) rfl, zw_tp 3 (by decide +kernel) rfl, by decide, by decide +kernel⟩
abbrev mX1_restore : zw_M := (yX1_restore, cX1_restore, 2, some .boolean, 0, fun _ => 0)
theorem my_X1_restore : zw_my mX1_restore 1 := ⟨zw_tp 723 (by decide +kernel) rfl, zw_tp 3 (by decide +kernel) rfl, by decide, by decide +kernel⟩
abbrev mX2_init : zw_M := (yX2_init, cX2_init, 1, none, 0, fun _ => 0)
theorem my_X2_init : zw_my mX2_init 0 := ⟨zw_tp 158 (by decide +kernel) rfl, zw_tp 7 (by decide +kernel) rfl, by decide, by decide +kernel⟩
abbrev mX2_select : zw_M := (yX2_select, cX2_select, 6, none, 0, fun _ => 0)
theorem my_X2_select : zw_my mX2_select 2 := ⟨zw_tp 292 (by decide +kernel) rfl, zw_tp 7 (by decide +kernel) rfl, by decide, by decide +kernel⟩
abbrev mX2_has : zw_M := (yX2_has, cX2_has, 2, some .boolean, 0, fun _ => 0)
theorem my_X2_has : zw_my mX2_has 1 := ⟨zw_tp 484 (by decide +kernel) rfl, zw_tp 7 (by decide +kernel) rfl, by decide, by decide +kernel⟩
abbrev mX2_find : zw_M := (yX2_find, cX2_find, 3, some .int, 0, fun _ => 0)
theorem my_X2_find : zw_my mX2_find 1 := ⟨zw_tp 546 (by decide +kernel) rfl, zw_tp 7 (by decide +kernel) rfl, by decide, by decide +kernel⟩
abbrev mX2_firstBehind : zw_M := (yX2_firstBehind, cX2_firstBehind, 3, some .int, 0, fun _ => 0)
theorem my_X2_firstBehind : zw_my mX2_firstBehind 1 := ⟨zw_tp 493 (by decide +kernel) rfl, zw_tp 7 (by decide +kernel) rfl, by decide, by decide +kernel⟩
abbrev mX2_lastBefore : zw_M := (yX2_lastBefore, cX2_lastBefore, 3, some .int, 0, fun _ => 0)
theorem my_X2_lastBefore : zw_my mX2_lastBefore 1 := ⟨zw_tp 505 (by decide +kernel) rfl, zw_tp 7 (by decide +kernel) rfl, by decide, by decide +kernel⟩
abbrev mX2_findNearest : zw_M := (yX2_findNearest, cX2_findNearest, 7, none, 0, fun _ => 0)
theorem my_X2_findNearest : zw_my mX2_findNearest 3 := ⟨zw_tp 589 (by decide +kernel) rfl, zw_tp 7 (by decide +kernel) rfl, by decide, by decide +kernel⟩
abbrev mX2_isBehindNearest : zw_M := (yX2_isBehindNearest, cX2_isBehindNearest, 4, some .boolean, 0, fun _ => 0)
theorem my_X2_isBehindNearest : zw_my mX2_isBehindNearest 2 := ⟨zw_tp 594 (by decide +kernel) rfl, zw_tp 7 (by decide +kernel) rfl, by decide, by decide +kernel⟩
abbrev mX3_init : zw_M := (yX3_init, cX3_init, 1, none, 0, fun _ => 0)
theorem my_X3_init : zw_my mX3_init 0 := ⟨zw_tp 100 (by decide +kernel) rfl, zw_tp 6 (by decide +kernel) rfl, by decide, by decide +kernel⟩
abbrev mX3_spell : zw_M := (yX3_spell, cX3_spell, 5, none, 0, fun _ => 0)
theorem my_X3_spell : zw_my mX3_spell 2 := ⟨zw_tp 248 (by decide +kernel) rfl, zw_tp 6 (by decide +kernel) rfl, by decide, by decide +kernel⟩
abbrev mX3_labelOfPartner : zw_M := (yX3_labelOfPartner, cX3_labelOfPartner, 4, some .int, 0, fun _ => 0)
theorem my_X3_labelOfPartner : zw_my mX3_labelOfPartner 2 := ⟨zw_tp 253 (by decide +kernel) rfl, zw_tp 6 (by decide +kernel) rfl, by decide, by decide +kernel⟩
abbrev mX3_growthNumber : zw_M := (yX3_growthNumber, cX3_growthNumber, 3, some .int, 0, fun _ => 0)
theorem my_X3_growthNumber : zw_my mX3_growthNumber 0 := ⟨zw_tp 260 (by decide +kernel) rfl, zw_tp 6 (by decide +kernel) rfl, by decide, by decide +kernel⟩
abbrev mX3_sizeSet : zw_M := (yX3_sizeSet, cX3_sizeSet, 3, some .int, 0, fun _ => 0)
theorem my_X3_sizeSet : zw_my mX3_sizeSet 0 := ⟨zw_tp 264 (by decide +kernel) rfl, zw_tp 6 (by decide +kernel) rfl, by decide, by decide +kernel⟩
abbrev mX3_typeNumber : zw_M := (yX3_typeNumber, cX3_typeNumber, 3, some .int, 0, fun _ => 0)
theorem my_X3_typeNumber : zw_my mX3_typeNumber 0 := ⟨zw_tp 530 (by decide +kernel) rfl, zw_tp 6 (by decide +kernel) rfl, by decide, by decide +kernel⟩
abbrev mX3_firstBlockNotIn : zw_M := (yX3_firstBlockNotIn, cX3_firstBlockNotIn, 3, some .int, 0, fun _ => 0)
theorem my_X3_firstBlockNotIn : zw_my mX3_firstBlockNotIn 1 := ⟨zw_tp 561 (by decide +kernel) rfl, zw_tp 6 (by decide +kernel) rfl, by decide, by decide +kernel⟩
abbrev mX3_crossingCount : zw_M := (yX3_crossingCount, cX3_crossingCount, 4, some .int, 0, fun _ => 0)
theorem my_X3_crossingCount : zw_my mX3_crossingCount 0 := ⟨zw_tp 538 (by decide +kernel) rfl, zw_tp 6 (by decide +kernel) rfl, by decide, by decide +kernel⟩
abbrev mX3_firstCrossing : zw_M := (yX3_firstCrossing, cX3_firstCrossing, 3, some .int, 0, fun _ => 0)
theorem my_X3_firstCrossing : zw_my mX3_firstCrossing 0 := ⟨zw_tp 274 (by decide +kernel) rfl, zw_tp 6 (by decide +kernel) rfl, by decide, by decide +kernel⟩
abbrev mX3_areCrossing : zw_M := (yX3_areCrossing, cX3_areCrossing, 6, some .boolean, 0, fun _ => 0)
theorem my_X3_areCrossing : zw_my mX3_areCrossing 2 := ⟨zw_tp 277 (by decide +kernel) rfl, zw_tp 6 (by decide +kernel) rfl, by decide, by decide +kernel⟩
abbrev mX4_init : zw_M := (yX4_init, cX4_init, 1, none, 0, fun _ => 0)
theorem my_X4_init : zw_my mX4_init 0 := ⟨zw_tp 194 (by decide +kernel) rfl, zw_tp 8 (by decide +kernel) rfl, by decide, by decide +kernel⟩
abbrev mX4_select : zw_M := (yX4_select, cX4_select, 6, none, 0, fun _ => 0)
theorem my_X4_select : zw_my mX4_select 3 := ⟨zw_tp 618 (by decide +kernel) rfl, zw_tp 8 (by decide +kernel) rfl, by decide, by decide +kernel⟩
abbrev mX4_lastValue : zw_M := (yX4_lastValue, cX4_lastValue, 1, some .long, 0, fun _ => 0)
theorem my_X4_lastValue : zw_my mX4_lastValue 0 := ⟨zw_tp 640 (by decide +kernel) rfl, zw_tp 8 (by decide +kernel) rfl, by decide, by decide +kernel⟩
abbrev mX4_startAtFirst : zw_M := (yX4_startAtFirst, cX4_startAtFirst, 2, none, 0, fun _ => 0)
theorem my_X4_startAtFirst : zw_my mX4_startAtFirst 0 := ⟨zw_tp 632 (by decide +kernel) rfl, zw_tp 8 (by decide +kernel) rfl, by decide, by decide +kernel⟩
abbrev mX4_putMoebius : zw_M := (yX4_putMoebius, cX4_putMoebius, 2, none, 0, fun _ => 0)
theorem my_X4_putMoebius : zw_my mX4_putMoebius 0 := ⟨zw_tp 628 (by decide +kernel) rfl, zw_tp 8 (by decide +kernel) rfl, by decide, by decide +kernel⟩
abbrev mX4_putChains : zw_M := (yX4_putChains, cX4_putChains, 4, none, 0, fun _ => 0)
theorem my_X4_putChains : zw_my mX4_putChains 1 := ⟨zw_tp 648 (by decide +kernel) rfl, zw_tp 8 (by decide +kernel) rfl, by decide, by decide +kernel⟩
abbrev mX4_putMaximalChains : zw_M := (yX4_putMaximalChains, cX4_putMaximalChains, 2, none, 0, fun _ => 0)
theorem my_X4_putMaximalChains : zw_my mX4_putMaximalChains 0 := ⟨zw_tp 656 (by decide +kernel) rfl, zw_tp 8 (by decide +kernel) rfl, by decide, by decide +kernel⟩
abbrev mX4_putHeights : zw_M := (yX4_putHeights, cX4_putHeights, 5, none, 0, fun _ => 0)
theorem my_X4_putHeights : zw_my mX4_putHeights 0 := ⟨zw_tp 672 (by decide +kernel) rfl, zw_tp 8 (by decide +kernel) rfl, by decide, by decide +kernel⟩
abbrev mX4_sumStrictlyBelow : zw_M := (yX4_sumStrictlyBelow, cX4_sumStrictlyBelow, 5, some .long, 0, fun _ => 0)
theorem my_X4_sumStrictlyBelow : zw_my mX4_sumStrictlyBelow 1 := ⟨zw_tp 636 (by decide +kernel) rfl, zw_tp 8 (by decide +kernel) rfl, by decide, by decide +kernel⟩
abbrev mX4_sumCovered : zw_M := (yX4_sumCovered, cX4_sumCovered, 6, some .long, 0, fun _ => 0)
theorem my_X4_sumCovered : zw_my mX4_sumCovered 1 := ⟨zw_tp 660 (by decide +kernel) rfl, zw_tp 8 (by decide +kernel) rfl, by decide, by decide +kernel⟩
abbrev mX4_isBelowCovered : zw_M := (yX4_isBelowCovered, cX4_isBelowCovered, 4, some .boolean, 0, fun _ => 0)
theorem my_X4_isBelowCovered : zw_my mX4_isBelowCovered 2 := ⟨zw_tp 664 (by decide +kernel) rfl, zw_tp 8 (by decide +kernel) rfl, by decide, by decide +kernel⟩
abbrev mX5_init : zw_M := (yX5_init, cX5_init, 1, none, 0, fun _ => 0)
theorem my_X5_init : zw_my mX5_init 0 := ⟨zw_tp 24 (by decide +kernel) rfl, zw_tp 2 (by decide +kernel) rfl, by decide, by decide +kernel⟩
abbrev mX5_reset : zw_M := (yX5_reset, cX5_reset, 3, none, 0, fun _ => 0)
theorem my_X5_reset : zw_my mX5_reset 1 := ⟨zw_tp 221 (by decide +kernel) rfl, zw_tp 2 (by decide +kernel) rfl, by decide, by decide +kernel⟩
abbrev mX5_takeFrom : zw_M := (yX5_takeFrom, cX5_takeFrom, 3, none, 0, fun _ => 0)
theorem my_X5_takeFrom : zw_my mX5_takeFrom 1 := ⟨zw_tp 339 (by decide +kernel) rfl, zw_tp 2 (by decide +kernel) rfl, by decide, by decide +kernel⟩
abbrev mX5_filledRegisters : zw_M := (yX5_filledRegisters, cX5_filledRegisters, 3, some .int, 0, fun _ => 0)
theorem my_X5_filledRegisters : zw_my mX5_filledRegisters 0 := ⟨zw_tp 731 (by decide +kernel) rfl, zw_tp 2 (by decide +kernel) rfl, by decide, by decide +kernel⟩
abbrev mX5_reason : zw_M := (yX5_reason, cX5_reason, 5, some .int, 0, fun _ => 0)
theorem my_X5_reason : zw_my mX5_reason 4 := ⟨zw_tp 296 (by decide +kernel) rfl, zw_tp 2 (by decide +kernel) rfl, by decide, by decide +kernel⟩
abbrev mX6_init : zw_M := (yX6_init, cX6_init, 1, none, 0, fun _ => 0)
theorem my_X6_init : zw_my mX6_init 0 := ⟨zw_tp 80 (by decide +kernel) rfl, zw_tp 4 (by decide +kernel) rfl, by decide, by decide +kernel⟩
abbrev mX6_append : zw_M := (yX6_append, cX6_append, 2, some .boolean, 0, fun _ => 0)
theorem my_X6_append : zw_my mX6_append 1 := ⟨zw_tp 376 (by decide +kernel) rfl, zw_tp 4 (by decide +kernel) rfl, by decide, by decide +kernel⟩
abbrev mX6_parse : zw_M := (yX6_parse, cX6_parse, 7, some .int, 0, fun _ => 0)
theorem my_X6_parse : zw_my mX6_parse 1 := ⟨zw_tp 391 (by decide +kernel) rfl, zw_tp 4 (by decide +kernel) rfl, by decide, by decide +kernel⟩
abbrev mX7_init : zw_M := (yX7_init, cX7_init, 1, none, 0, fun _ => 0)
theorem my_X7_init : zw_my mX7_init 0 := ⟨zw_tp 16 (by decide +kernel) rfl, zw_tp 1 (by decide +kernel) rfl, by decide, by decide +kernel⟩
abbrev mX7_setSize : zw_M := (yX7_setSize, cX7_setSize, 3, some .int, 0, fun _ => 0)
theorem my_X7_setSize : zw_my mX7_setSize 1 := ⟨zw_tp 331 (by decide +kernel) rfl, zw_tp 1 (by decide +kernel) rfl, by decide, by decide +kernel⟩
abbrev mX7_allowSize : zw_M := (yX7_allowSize, cX7_allowSize, 4, some .int, 0, fun _ => 0)
theorem my_X7_allowSize : zw_my mX7_allowSize 2 := ⟨zw_tp 344 (by decide +kernel) rfl, zw_tp 1 (by decide +kernel) rfl, by decide, by decide +kernel⟩
abbrev mX7_allowNumber : zw_M := (yX7_allowNumber, cX7_allowNumber, 4, some .int, 0, fun _ => 0)
theorem my_X7_allowNumber : zw_my mX7_allowNumber 2 := ⟨zw_tp 351 (by decide +kernel) rfl, zw_tp 1 (by decide +kernel) rfl, by decide, by decide +kernel⟩
abbrev mX7_apart : zw_M := (yX7_apart, cX7_apart, 6, some .int, 0, fun _ => 0)
theorem my_X7_apart : zw_my mX7_apart 3 := ⟨zw_tp 355 (by decide +kernel) rfl, zw_tp 1 (by decide +kernel) rfl, by decide, by decide +kernel⟩
abbrev mX7_together : zw_M := (yX7_together, cX7_together, 6, some .int, 0, fun _ => 0)
theorem my_X7_together : zw_my mX7_together 3 := ⟨zw_tp 364 (by decide +kernel) rfl, zw_tp 1 (by decide +kernel) rfl, by decide, by decide +kernel⟩
abbrev mX7_noncrossing : zw_M := (yX7_noncrossing, cX7_noncrossing, 3, some .int, 0, fun _ => 0)
theorem my_X7_noncrossing : zw_my mX7_noncrossing 1 := ⟨zw_tp 368 (by decide +kernel) rfl, zw_tp 1 (by decide +kernel) rfl, by decide, by decide +kernel⟩
abbrev mX7_type : zw_M := (yX7_type, cX7_type, 2, some .int, 0, fun _ => 0)
theorem my_X7_type : zw_my mX7_type 1 := ⟨zw_tp 372 (by decide +kernel) rfl, zw_tp 1 (by decide +kernel) rfl, by decide, by decide +kernel⟩
abbrev mX7_clear : zw_M := (yX7_clear, cX7_clear, 2, some .int, 0, fun _ => 0)
theorem my_X7_clear : zw_my mX7_clear 0 := ⟨zw_tp 380 (by decide +kernel) rfl, zw_tp 1 (by decide +kernel) rfl, by decide, by decide +kernel⟩
abbrev mX7_read : zw_M := (yX7_read, cX7_read, 3, some .int, 0, fun _ => 0)
theorem my_X7_read : zw_my mX7_read 1 := ⟨zw_tp 384 (by decide +kernel) rfl, zw_tp 1 (by decide +kernel) rfl, by decide, by decide +kernel⟩
abbrev mX7_finest : zw_M := (yX7_finest, cX7_finest, 2, some .int, 0, fun _ => 0)
theorem my_X7_finest : zw_my mX7_finest 1 := ⟨zw_tp 407 (by decide +kernel) rfl, zw_tp 1 (by decide +kernel) rfl, by decide, by decide +kernel⟩
abbrev mX7_coarsest : zw_M := (yX7_coarsest, cX7_coarsest, 2, some .int, 0, fun _ => 0)
theorem my_X7_coarsest : zw_my mX7_coarsest 1 := ⟨zw_tp 411 (by decide +kernel) rfl, zw_tp 1 (by decide +kernel) rfl, by decide, by decide +kernel⟩
abbrev mX7_copy : zw_M := (yX7_copy, cX7_copy, 4, some .int, 0, fun _ => 0)
theorem my_X7_copy : zw_my mX7_copy 2 := ⟨zw_tp 419 (by decide +kernel) rfl, zw_tp 1 (by decide +kernel) rfl, by decide, by decide +kernel⟩
abbrev mX7_meet : zw_M := (yX7_meet, cX7_meet, 5, some .int, 0, fun _ => 0)
theorem my_X7_meet : zw_my mX7_meet 3 := ⟨zw_tp 427 (by decide +kernel) rfl, zw_tp 1 (by decide +kernel) rfl, by decide, by decide +kernel⟩
abbrev mX7_join : zw_M := (yX7_join, cX7_join, 5, some .int, 0, fun _ => 0)
theorem my_X7_join : zw_my mX7_join 3 := ⟨zw_tp 431 (by decide +kernel) rfl, zw_tp 1 (by decide +kernel) rfl, by decide, by decide +kernel⟩
abbrev mX7_unite : zw_M := (yX7_unite, cX7_unite, 5, some .int, 0, fun _ => 0)
theorem my_X7_unite : zw_my mX7_unite 3 := ⟨zw_tp 443 (by decide +kernel) rfl, zw_tp 1 (by decide +kernel) rfl, by decide, by decide +kernel⟩
abbrev mX7_isolate : zw_M := (yX7_isolate, cX7_isolate, 5, some .int, 0, fun _ => 0)
theorem my_X7_isolate : zw_my mX7_isolate 2 := ⟨zw_tp 447 (by decide +kernel) rfl, zw_tp 1 (by decide +kernel) rfl, by decide, by decide +kernel⟩
abbrev mX7_swap : zw_M := (yX7_swap, cX7_swap, 6, some .int, 0, fun _ => 0)
theorem my_X7_swap : zw_my mX7_swap 3 := ⟨zw_tp 452 (by decide +kernel) rfl, zw_tp 1 (by decide +kernel) rfl, by decide, by decide +kernel⟩
abbrev mX7_rotate : zw_M := (yX7_rotate, cX7_rotate, 4, some .int, 0, fun _ => 0)
theorem my_X7_rotate : zw_my mX7_rotate 1 := ⟨zw_tp 461 (by decide +kernel) rfl, zw_tp 1 (by decide +kernel) rfl, by decide, by decide +kernel⟩
abbrev mX7_complement : zw_M := (yX7_complement, cX7_complement, 4, some .int, 0, fun _ => 0)
theorem my_X7_complement : zw_my mX7_complement 2 := ⟨zw_tp 465 (by decide +kernel) rfl, zw_tp 1 (by decide +kernel) rfl, by decide, by decide +kernel⟩
abbrev mX7_unrank : zw_M := (yX7_unrank, cX7_unrank, 3, some .int, 0, fun _ => 0)
theorem my_X7_unrank : zw_my mX7_unrank 2 := ⟨zw_tp 480 (by decide +kernel) rfl, zw_tp 1 (by decide +kernel) rfl, by decide, by decide +kernel⟩
abbrev mX7_next : zw_M := (yX7_next, cX7_next, 3, some .int, 0, fun _ => 0)
theorem my_X7_next : zw_my mX7_next 1 := ⟨zw_tp 488 (by decide +kernel) rfl, zw_tp 1 (by decide +kernel) rfl, by decide, by decide +kernel⟩
abbrev mX7_previous : zw_M := (yX7_previous, cX7_previous, 3, some .int, 0, fun _ => 0)
theorem my_X7_previous : zw_my mX7_previous 1 := ⟨zw_tp 501 (by decide +kernel) rfl, zw_tp 1 (by decide +kernel) rfl, by decide, by decide +kernel⟩
abbrev mX7_draw : zw_M := (yX7_draw, cX7_draw, 4, some .int, 0, fun _ => 0)
theorem my_X7_draw : zw_my mX7_draw 2 := ⟨zw_tp 509 (by decide +kernel) rfl, zw_tp 1 (by decide +kernel) rfl, by decide, by decide +kernel⟩
abbrev mX7_blocks : zw_M := (yX7_blocks, cX7_blocks, 3, some .int, 0, fun _ => 0)
theorem my_X7_blocks : zw_my mX7_blocks 1 := ⟨zw_tp 514 (by decide +kernel) rfl, zw_tp 1 (by decide +kernel) rfl, by decide, by decide +kernel⟩
abbrev mX7_blockOf : zw_M := (yX7_blockOf, cX7_blockOf, 4, some .int, 0, fun _ => 0)
theorem my_X7_blockOf : zw_my mX7_blockOf 2 := ⟨zw_tp 518 (by decide +kernel) rfl, zw_tp 1 (by decide +kernel) rfl, by decide, by decide +kernel⟩
abbrev mX7_block : zw_M := (yX7_block, cX7_block, 4, some .int, 0, fun _ => 0)
theorem my_X7_block : zw_my mX7_block 2 := ⟨zw_tp 522 (by decide +kernel) rfl, zw_tp 1 (by decide +kernel) rfl, by decide, by decide +kernel⟩
abbrev mX7_typeOf : zw_M := (yX7_typeOf, cX7_typeOf, 3, some .int, 0, fun _ => 0)
theorem my_X7_typeOf : zw_my mX7_typeOf 1 := ⟨zw_tp 526 (by decide +kernel) rfl, zw_tp 1 (by decide +kernel) rfl, by decide, by decide +kernel⟩
abbrev mX7_crossings : zw_M := (yX7_crossings, cX7_crossings, 3, some .int, 0, fun _ => 0)
theorem my_X7_crossings : zw_my mX7_crossings 1 := ⟨zw_tp 534 (by decide +kernel) rfl, zw_tp 1 (by decide +kernel) rfl, by decide, by decide +kernel⟩
abbrev mX7_index : zw_M := (yX7_index, cX7_index, 3, some .int, 0, fun _ => 0)
theorem my_X7_index : zw_my mX7_index 1 := ⟨zw_tp 542 (by decide +kernel) rfl, zw_tp 1 (by decide +kernel) rfl, by decide, by decide +kernel⟩
abbrev mX7_why : zw_M := (yX7_why, cX7_why, 5, some .int, 0, fun _ => 0)
theorem my_X7_why : zw_my mX7_why 1 := ⟨zw_tp 550 (by decide +kernel) rfl, zw_tp 1 (by decide +kernel) rfl, by decide, by decide +kernel⟩
abbrev mX7_where : zw_M := (yX7_where, cX7_where, 4, some .int, 0, fun _ => 0)
theorem my_X7_where : zw_my mX7_where 1 := ⟨zw_tp 556 (by decide +kernel) rfl, zw_tp 1 (by decide +kernel) rfl, by decide, by decide +kernel⟩
abbrev mX7_count : zw_M := (yX7_count, cX7_count, 1, some .int, 0, fun _ => 0)
theorem my_X7_count : zw_my mX7_count 0 := ⟨zw_tp 568 (by decide +kernel) rfl, zw_tp 1 (by decide +kernel) rfl, by decide, by decide +kernel⟩
abbrev mX7_countWith : zw_M := (yX7_countWith, cX7_countWith, 2, some .int, 0, fun _ => 0)
theorem my_X7_countWith : zw_my mX7_countWith 1 := ⟨zw_tp 572 (by decide +kernel) rfl, zw_tp 1 (by decide +kernel) rfl, by decide, by decide +kernel⟩
abbrev mX7_below : zw_M := (yX7_below, cX7_below, 4, some .int, 0, fun _ => 0)
theorem my_X7_below : zw_my mX7_below 2 := ⟨zw_tp 576 (by decide +kernel) rfl, zw_tp 1 (by decide +kernel) rfl, by decide, by decide +kernel⟩
abbrev mX7_covers : zw_M := (yX7_covers, cX7_covers, 4, some .int, 0, fun _ => 0)
theorem my_X7_covers : zw_my mX7_covers 2 := ⟨zw_tp 581 (by decide +kernel) rfl, zw_tp 1 (by decide +kernel) rfl, by decide, by decide +kernel⟩
abbrev mX7_bounds : zw_M := (yX7_bounds, cX7_bounds, 5, some .int, 0, fun _ => 0)
theorem my_X7_bounds : zw_my mX7_bounds 3 := ⟨zw_tp 598 (by decide +kernel) rfl, zw_tp 1 (by decide +kernel) rfl, by decide, by decide +kernel⟩
abbrev mX7_bound : zw_M := (yX7_bound, cX7_bound, 6, some .int, 0, fun _ => 0)
theorem my_X7_bound : zw_my mX7_bound 4 := ⟨zw_tp 606 (by decide +kernel) rfl, zw_tp 1 (by decide +kernel) rfl, by decide, by decide +kernel⟩
abbrev mX7_interval : zw_M := (yX7_interval, cX7_interval, 4, some .int, 0, fun _ => 0)
theorem my_X7_interval : zw_my mX7_interval 2 := ⟨zw_tp 610 (by decide +kernel) rfl, zw_tp 1 (by decide +kernel) rfl, by decide, by decide +kernel⟩
abbrev mX7_moebius : zw_M := (yX7_moebius, cX7_moebius, 4, some .long, 0, fun _ => 0)
theorem my_X7_moebius : zw_my mX7_moebius 2 := ⟨zw_tp 623 (by decide +kernel) rfl, zw_tp 1 (by decide +kernel) rfl, by decide, by decide +kernel⟩
abbrev mX7_chains : zw_M := (yX7_chains, cX7_chains, 5, some .long, 0, fun _ => 0)
theorem my_X7_chains : zw_my mX7_chains 3 := ⟨zw_tp 644 (by decide +kernel) rfl, zw_tp 1 (by decide +kernel) rfl, by decide, by decide +kernel⟩
abbrev mX7_maximalChains : zw_M := (yX7_maximalChains, cX7_maximalChains, 4, some .long, 0, fun _ => 0)
theorem my_X7_maximalChains : zw_my mX7_maximalChains 2 := ⟨zw_tp 652 (by decide +kernel) rfl, zw_tp 1 (by decide +kernel) rfl, by decide, by decide +kernel⟩
abbrev mX7_height : zw_M := (yX7_height, cX7_height, 4, some .int, 0, fun _ => 0)
theorem my_X7_height : zw_my mX7_height 2 := ⟨zw_tp 668 (by decide +kernel) rfl, zw_tp 1 (by decide +kernel) rfl, by decide, by decide +kernel⟩
abbrev mX7_rankSum : zw_M := (yX7_rankSum, cX7_rankSum, 9, some .long, 0, fun _ => 0)
theorem my_X7_rankSum : zw_my mX7_rankSum 3 := ⟨zw_tp 679 (by decide +kernel) rfl, zw_tp 1 (by decide +kernel) rfl, by decide, by decide +kernel⟩
abbrev mX7_characteristic : zw_M := (yX7_characteristic, cX7_characteristic, 9, some .long, 0, fun _ => 0)
theorem my_X7_characteristic : zw_my mX7_characteristic 3 := ⟨zw_tp 689 (by decide +kernel) rfl, zw_tp 1 (by decide +kernel) rfl, by decide, by decide +kernel⟩
abbrev mX7_transfers : zw_M := (yX7_transfers, cX7_transfers, 4, some .int, 0, fun _ => 0)
theorem my_X7_transfers : zw_my mX7_transfers 2 := ⟨zw_tp 693 (by decide +kernel) rfl, zw_tp 1 (by decide +kernel) rfl, by decide, by decide +kernel⟩
abbrev mX7_disagreements : zw_M := (yX7_disagreements, cX7_disagreements, 4, some .int, 0, fun _ => 0)
theorem my_X7_disagreements : zw_my mX7_disagreements 2 := ⟨zw_tp 707 (by decide +kernel) rfl, zw_tp 1 (by decide +kernel) rfl, by decide, by decide +kernel⟩
abbrev mX7_median : zw_M := (yX7_median, cX7_median, 7, some .int, 0, fun _ => 0)
theorem my_X7_median : zw_my mX7_median 2 := ⟨zw_tp 711 (by decide +kernel) rfl, zw_tp 1 (by decide +kernel) rfl, by decide, by decide +kernel⟩
abbrev mX7_undo : zw_M := (yX7_undo, cX7_undo, 1, some .int, 0, fun _ => 0)
theorem my_X7_undo : zw_my mX7_undo 0 := ⟨zw_tp 719 (by decide +kernel) rfl, zw_tp 1 (by decide +kernel) rfl, by decide, by decide +kernel⟩
abbrev mX7_told : zw_M := (yX7_told, cX7_told, 2, some .int, 0, fun _ => 0)
theorem my_X7_told : zw_my mX7_told 1 := ⟨zw_tp 727 (by decide +kernel) rfl, zw_tp 1 (by decide +kernel) rfl, by decide, by decide +kernel⟩
abbrev mX7_digest : zw_M := (yX7_digest, cX7_digest, 4, some .long, 0, fun _ => 0)
theorem my_X7_digest : zw_my mX7_digest 0 := ⟨zw_tp 735 (by decide +kernel) rfl, zw_tp 1 (by decide +kernel) rfl, by decide, by decide +kernel⟩
abbrev mX7_hashOfRegister : zw_M := (yX7_hashOfRegister, cX7_hashOfRegister, 7, some .long, 0, fun _ => 0)
theorem my_X7_hashOfRegister : zw_my mX7_hashOfRegister 2 := ⟨zw_tp 745 (by decide +kernel) rfl, zw_tp 1 (by decide +kernel) rfl, by decide, by decide +kernel⟩
abbrev mX7_isRegister : zw_M := (yX7_isRegister, cX7_isRegister, 1, some .boolean, 0, fun _ => 0)
theorem my_X7_isRegister : zw_my mX7_isRegister 1 := ⟨zw_tp 387 (by decide +kernel) rfl, zw_tp 1 (by decide +kernel) rfl, by decide, by decide +kernel⟩
abbrev mX7_isElement : zw_M := (yX7_isElement, cX7_isElement, 2, some .boolean, 0, fun _ => 0)
theorem my_X7_isElement : zw_my mX7_isElement 1 := ⟨zw_tp 359 (by decide +kernel) rfl, zw_tp 1 (by decide +kernel) rfl, by decide, by decide +kernel⟩
abbrev mX7_isBase : zw_M := (yX7_isBase, cX7_isBase, 1, some .boolean, 0, fun _ => 0)
theorem my_X7_isBase : zw_my mX7_isBase 1 := ⟨zw_tp 682 (by decide +kernel) rfl, zw_tp 1 (by decide +kernel) rfl, by decide, by decide +kernel⟩
abbrev mX7_faultOf : zw_M := (yX7_faultOf, cX7_faultOf, 4, some .int, 0, fun _ => 0)
theorem my_X7_faultOf : zw_my mX7_faultOf 3 := ⟨zw_tp 423 (by decide +kernel) rfl, zw_tp 1 (by decide +kernel) rfl, by decide, by decide +kernel⟩
abbrev mX7_faultOfAdmitted : zw_M := (yX7_faultOfAdmitted, cX7_faultOfAdmitted, 6, some .int, 0, fun _ => 0)
theorem my_X7_faultOfAdmitted : zw_my mX7_faultOfAdmitted 3 := ⟨zw_tp 585 (by decide +kernel) rfl, zw_tp 1 (by decide +kernel) rfl, by decide, by decide +kernel⟩
abbrev mX7_refresh : zw_M := (yX7_refresh, cX7_refresh, 1, none, 0, fun _ => 0)
theorem my_X7_refresh : zw_my mX7_refresh 0 := ⟨zw_tp 225 (by decide +kernel) rfl, zw_tp 1 (by decide +kernel) rfl, by decide, by decide +kernel⟩
abbrev mX7_put : zw_M := (yX7_put, cX7_put, 3, some .int, 0, fun _ => 0)
theorem my_X7_put : zw_my mX7_put 2 := ⟨zw_tp 398 (by decide +kernel) rfl, zw_tp 1 (by decide +kernel) rfl, by decide, by decide +kernel⟩
abbrev mX7_stepTo : zw_M := (yX7_stepTo, cX7_stepTo, 3, some .int, 0, fun _ => 0)
theorem my_X7_stepTo : zw_my mX7_stepTo 2 := ⟨zw_tp 497 (by decide +kernel) rfl, zw_tp 1 (by decide +kernel) rfl, by decide, by decide +kernel⟩
abbrev mX7_moveElements : zw_M := (yX7_moveElements, cX7_moveElements, 5, some .int, 0, fun _ => 0)
theorem my_X7_moveElements : zw_my mX7_moveElements 1 := ⟨zw_tp 456 (by decide +kernel) rfl, zw_tp 1 (by decide +kernel) rfl, by decide, by decide +kernel⟩
abbrev mX7_spellRegister : zw_M := (yX7_spellRegister, cX7_spellRegister, 2, none, 0, fun _ => 0)
theorem my_X7_spellRegister : zw_my mX7_spellRegister 1 := ⟨zw_tp 469 (by decide +kernel) rfl, zw_tp 1 (by decide +kernel) rfl, by decide, by decide +kernel⟩
abbrev mX7_blockCountOf : zw_M := (yX7_blockCountOf, cX7_blockCountOf, 2, some .int, 0, fun _ => 0)
theorem my_X7_blockCountOf : zw_my mX7_blockCountOf 1 := ⟨zw_tp 402 (by decide +kernel) rfl, zw_tp 1 (by decide +kernel) rfl, by decide, by decide +kernel⟩
abbrev mX7_findNearestBounds : zw_M := (yX7_findNearestBounds, cX7_findNearestBounds, 6, none, 0, fun _ => 0)
theorem my_X7_findNearestBounds : zw_my mX7_findNearestBounds 3 := ⟨zw_tp 602 (by decide +kernel) rfl, zw_tp 1 (by decide +kernel) rfl, by decide, by decide +kernel⟩
abbrev mX7_selectSpan : zw_M := (yX7_selectSpan, cX7_selectSpan, 3, none, 0, fun _ => 0)
theorem my_X7_selectSpan : zw_my mX7_selectSpan 2 := ⟨zw_tp 614 (by decide +kernel) rfl, zw_tp 1 (by decide +kernel) rfl, by decide, by decide +kernel⟩
abbrev mX7_disagreementsWith : zw_M := (yX7_disagreementsWith, cX7_disagreementsWith, 5, some .int, 0, fun _ => 0)
theorem my_X7_disagreementsWith : zw_my mX7_disagreementsWith 2 := ⟨zw_tp 715 (by decide +kernel) rfl, zw_tp 1 (by decide +kernel) rfl, by decide, by decide +kernel⟩
abbrev mX7_mostThatStay : zw_M := (yX7_mostThatStay, cX7_mostThatStay, 4, some .int, 0, fun _ => 0)
theorem my_X7_mostThatStay : zw_my mX7_mostThatStay 0 := ⟨zw_tp 697 (by decide +kernel) rfl, zw_tp 1 (by decide +kernel) rfl, by decide, by decide +kernel⟩
abbrev mX7_mostWithBlock : zw_M := (yX7_mostWithBlock, cX7_mostWithBlock, 6, some .int, 0, fun _ => 0)
theorem my_X7_mostWithBlock : zw_my mX7_mostWithBlock 2 := ⟨zw_tp 701 (by decide +kernel) rfl, zw_tp 1 (by decide +kernel) rfl, by decide, by decide +kernel⟩
abbrev mX7_isBelow : zw_M := (yX7_isBelow, cX7_isBelow, 2, some .boolean, 0, fun _ => 0)
theorem my_X7_isBelow : zw_my mX7_isBelow 2 := ⟨zw_tp 438 (by decide +kernel) rfl, zw_tp 1 (by decide +kernel) rfl, by decide, by decide +kernel⟩
abbrev mX7_withBits : zw_M := (yX7_withBits, cX7_withBits, 3, some .int, 0, fun _ => 0)
theorem my_X7_withBits : zw_my mX7_withBits 3 := ⟨zw_tp 347 (by decide +kernel) rfl, zw_tp 1 (by decide +kernel) rfl, by decide, by decide +kernel⟩
abbrev mX7_pairBit : zw_M := (yX7_pairBit, cX7_pairBit, 4, some .int, 0, fun _ => 0)
theorem my_X7_pairBit : zw_my mX7_pairBit 2 := ⟨zw_tp 256 (by decide +kernel) rfl, zw_tp 1 (by decide +kernel) rfl, by decide, by decide +kernel⟩
abbrev mX7_pairsWith : zw_M := (yX7_pairsWith, cX7_pairsWith, 4, some .int, 0, fun _ => 0)
theorem my_X7_pairsWith : zw_my mX7_pairsWith 2 := ⟨zw_tp 394 (by decide +kernel) rfl, zw_tp 1 (by decide +kernel) rfl, by decide, by decide +kernel⟩
abbrev mX7_allPairs : zw_M := (yX7_allPairs, cX7_allPairs, 3, some .int, 0, fun _ => 0)
theorem my_X7_allPairs : zw_my mX7_allPairs 1 := ⟨zw_tp 414 (by decide +kernel) rfl, zw_tp 1 (by decide +kernel) rfl, by decide, by decide +kernel⟩
abbrev mX7_firstPair : zw_M := (yX7_firstPair, cX7_firstPair, 2, some .int, 0, fun _ => 0)
theorem my_X7_firstPair : zw_my mX7_firstPair 1 := ⟨zw_tp 564 (by decide +kernel) rfl, zw_tp 1 (by decide +kernel) rfl, by decide, by decide +kernel⟩
abbrev mX7_complementOf : zw_M := (yX7_complementOf, cX7_complementOf, 4, some .int, 0, fun _ => 0)
theorem my_X7_complementOf : zw_my mX7_complementOf 2 := ⟨zw_tp 473 (by decide +kernel) rfl, zw_tp 1 (by decide +kernel) rfl, by decide, by decide +kernel⟩
abbrev mX7_isSplit : zw_M := (yX7_isSplit, cX7_isSplit, 6, some .boolean, 0, fun _ => 0)
theorem my_X7_isSplit : zw_my mX7_isSplit 3 := ⟨zw_tp 476 (by decide +kernel) rfl, zw_tp 1 (by decide +kernel) rfl, by decide, by decide +kernel⟩
abbrev mX7_power : zw_M := (yX7_power, cX7_power, 5, some .long, 0, fun _ => 0)
theorem my_X7_power : zw_my mX7_power 2 := ⟨zw_tp 685 (by decide +kernel) rfl, zw_tp 1 (by decide +kernel) rfl, by decide, by decide +kernel⟩
abbrev mX8_init : zw_M := (yX8_init, cX8_init, 1, none, 0, fun _ => 0)
theorem my_X8_init : zw_my mX8_init 0 := ⟨zw_tp 754 (by decide +kernel) rfl, zw_tp 11 (by decide +kernel) rfl, by decide, by decide +kernel⟩
abbrev mX8_in : zw_M := (yX8_in, cX8_in, 3, some .boolean, 0, fun _ => 0)
theorem my_X8_in : zw_my mX8_in 3 := ⟨zw_tp 852 (by decide +kernel) rfl, zw_tp 11 (by decide +kernel) rfl, by decide, by decide +kernel⟩
abbrev mX8_starts : zw_M := (yX8_starts, cX8_starts, 3, none, 0, fun _ => 0)
theorem my_X8_starts : zw_my mX8_starts 1 := ⟨zw_tp 759 (by decide +kernel) rfl, zw_tp 11 (by decide +kernel) rfl, by decide, by decide +kernel⟩
abbrev mX8_begins : zw_M := (yX8_begins, cX8_begins, 2, none, 0, fun _ => 0)
theorem my_X8_begins : zw_my mX8_begins 0 := ⟨zw_tp 856 (by decide +kernel) rfl, zw_tp 11 (by decide +kernel) rfl, by decide, by decide +kernel⟩
abbrev mX8_at : zw_M := (yX8_at, cX8_at, 3, some .int, 0, fun _ => 0)
theorem my_X8_at : zw_my mX8_at 2 := ⟨zw_tp 787 (by decide +kernel) rfl, zw_tp 11 (by decide +kernel) rfl, by decide, by decide +kernel⟩
abbrev mX8_greatest : zw_M := (yX8_greatest, cX8_greatest, 4, some .int, 0, fun _ => 0)
theorem my_X8_greatest : zw_my mX8_greatest 1 := ⟨zw_tp 767 (by decide +kernel) rfl, zw_tp 11 (by decide +kernel) rfl, by decide, by decide +kernel⟩
abbrev mX8_lays : zw_M := (yX8_lays, cX8_lays, 5, none, 0, fun _ => 0)
theorem my_X8_lays : zw_my mX8_lays 0 := ⟨zw_tp 763 (by decide +kernel) rfl, zw_tp 11 (by decide +kernel) rfl, by decide, by decide +kernel⟩
abbrev mX8_admits : zw_M := (yX8_admits, cX8_admits, 2, none, 0, fun _ => 0)
theorem my_X8_admits : zw_my mX8_admits 0 := ⟨zw_tp 771 (by decide +kernel) rfl, zw_tp 11 (by decide +kernel) rfl, by decide, by decide +kernel⟩
abbrev mX8_isAdmitted : zw_M := (yX8_isAdmitted, cX8_isAdmitted, 2, some .boolean, 0, fun _ => 0)
theorem my_X8_isAdmitted : zw_my mX8_isAdmitted 1 := ⟨zw_tp 999 (by decide +kernel) rfl, zw_tp 11 (by decide +kernel) rfl, by decide, by decide +kernel⟩
abbrev mX8_numberOf : zw_M := (yX8_numberOf, cX8_numberOf, 6, some .int, 0, fun _ => 0)
theorem my_X8_numberOf : zw_my mX8_numberOf 0 := ⟨zw_tp 915 (by decide +kernel) rfl, zw_tp 11 (by decide +kernel) rfl, by decide, by decide +kernel⟩
abbrev mX8_takes : zw_M := (yX8_takes, cX8_takes, 3, none, 0, fun _ => 0)
theorem my_X8_takes : zw_my mX8_takes 1 := ⟨zw_tp 955 (by decide +kernel) rfl, zw_tp 11 (by decide +kernel) rfl, by decide, by decide +kernel⟩
abbrev mX8_sizeOf : zw_M := (yX8_sizeOf, cX8_sizeOf, 5, some .int, 0, fun _ => 0)
theorem my_X8_sizeOf : zw_my mX8_sizeOf 2 := ⟨zw_tp 783 (by decide +kernel) rfl, zw_tp 11 (by decide +kernel) rfl, by decide, by decide +kernel⟩
abbrev mX8_areCrossing : zw_M := (yX8_areCrossing, cX8_areCrossing, 8, some .boolean, 0, fun _ => 0)
theorem my_X8_areCrossing : zw_my mX8_areCrossing 3 := ⟨zw_tp 802 (by decide +kernel) rfl, zw_tp 11 (by decide +kernel) rfl, by decide, by decide +kernel⟩
abbrev mX8_firstCrossing : zw_M := (yX8_firstCrossing, cX8_firstCrossing, 4, some .int, 0, fun _ => 0)
theorem my_X8_firstCrossing : zw_my mX8_firstCrossing 1 := ⟨zw_tp 798 (by decide +kernel) rfl, zw_tp 11 (by decide +kernel) rfl, by decide, by decide +kernel⟩
abbrev mX8_bitOf : zw_M := (yX8_bitOf, cX8_bitOf, 4, some .int, 0, fun _ => 0)
theorem my_X8_bitOf : zw_my mX8_bitOf 2 := ⟨zw_tp 794 (by decide +kernel) rfl, zw_tp 11 (by decide +kernel) rfl, by decide, by decide +kernel⟩
abbrev mX8_firstPair : zw_M := (yX8_firstPair, cX8_firstPair, 6, some .int, 0, fun _ => 0)
theorem my_X8_firstPair : zw_my mX8_firstPair 3 := ⟨zw_tp 791 (by decide +kernel) rfl, zw_tp 11 (by decide +kernel) rfl, by decide, by decide +kernel⟩
abbrev mX8_firstSize : zw_M := (yX8_firstSize, cX8_firstSize, 3, some .int, 0, fun _ => 0)
theorem my_X8_firstSize : zw_my mX8_firstSize 1 := ⟨zw_tp 779 (by decide +kernel) rfl, zw_tp 11 (by decide +kernel) rfl, by decide, by decide +kernel⟩
abbrev mX8_reason : zw_M := (yX8_reason, cX8_reason, 2, some .int, 0, fun _ => 0)
theorem my_X8_reason : zw_my mX8_reason 1 := ⟨zw_tp 775 (by decide +kernel) rfl, zw_tp 11 (by decide +kernel) rfl, by decide, by decide +kernel⟩
abbrev mX8_placeOf : zw_M := (yX8_placeOf, cX8_placeOf, 2, some .int, 0, fun _ => 0)
theorem my_X8_placeOf : zw_my mX8_placeOf 1 := ⟨zw_tp 1056 (by decide +kernel) rfl, zw_tp 11 (by decide +kernel) rfl, by decide, by decide +kernel⟩
abbrev mX8_isBelow : zw_M := (yX8_isBelow, cX8_isBelow, 5, some .boolean, 0, fun _ => 0)
theorem my_X8_isBelow : zw_my mX8_isBelow 2 := ⟨zw_tp 1076 (by decide +kernel) rfl, zw_tp 11 (by decide +kernel) rfl, by decide, by decide +kernel⟩
abbrev mX8_isStrictly : zw_M := (yX8_isStrictly, cX8_isStrictly, 3, some .boolean, 0, fun _ => 0)
theorem my_X8_isStrictly : zw_my mX8_isStrictly 2 := ⟨zw_tp 1088 (by decide +kernel) rfl, zw_tp 11 (by decide +kernel) rfl, by decide, by decide +kernel⟩
abbrev mX8_rank : zw_M := (yX8_rank, cX8_rank, 2, some .int, 0, fun _ => 0)
theorem my_X8_rank : zw_my mX8_rank 1 := ⟨zw_tp 1129 (by decide +kernel) rfl, zw_tp 11 (by decide +kernel) rfl, by decide, by decide +kernel⟩
abbrev mX8_sets : zw_M := (yX8_sets, cX8_sets, 4, some .int, 0, fun _ => 0)
theorem my_X8_sets : zw_my mX8_sets 2 := ⟨zw_tp 868 (by decide +kernel) rfl, zw_tp 11 (by decide +kernel) rfl, by decide, by decide +kernel⟩
abbrev mX8_setSize : zw_M := (yX8_setSize, cX8_setSize, 3, some .int, 0, fun _ => 0)
theorem my_X8_setSize : zw_my mX8_setSize 1 := ⟨zw_tp 849 (by decide +kernel) rfl, zw_tp 11 (by decide +kernel) rfl, by decide, by decide +kernel⟩
abbrev mX8_setsBit : zw_M := (yX8_setsBit, cX8_setsBit, 5, some .int, 0, fun _ => 0)
theorem my_X8_setsBit : zw_my mX8_setsBit 3 := ⟨zw_tp 864 (by decide +kernel) rfl, zw_tp 11 (by decide +kernel) rfl, by decide, by decide +kernel⟩
abbrev mX8_allowSize : zw_M := (yX8_allowSize, cX8_allowSize, 3, some .int, 0, fun _ => 0)
theorem my_X8_allowSize : zw_my mX8_allowSize 2 := ⟨zw_tp 860 (by decide +kernel) rfl, zw_tp 11 (by decide +kernel) rfl, by decide, by decide +kernel⟩
abbrev mX8_allowNumber : zw_M := (yX8_allowNumber, cX8_allowNumber, 3, some .int, 0, fun _ => 0)
theorem my_X8_allowNumber : zw_my mX8_allowNumber 2 := ⟨zw_tp 872 (by decide +kernel) rfl, zw_tp 11 (by decide +kernel) rfl, by decide, by decide +kernel⟩
abbrev mX8_isElement : zw_M := (yX8_isElement, cX8_isElement, 2, some .boolean, 0, fun _ => 0)
theorem my_X8_isElement : zw_my mX8_isElement 1 := ⟨zw_tp 884 (by decide +kernel) rfl, zw_tp 11 (by decide +kernel) rfl, by decide, by decide +kernel⟩
abbrev mX8_isPair : zw_M := (yX8_isPair, cX8_isPair, 3, some .boolean, 0, fun _ => 0)
theorem my_X8_isPair : zw_my mX8_isPair 2 := ⟨zw_tp 880 (by decide +kernel) rfl, zw_tp 11 (by decide +kernel) rfl, by decide, by decide +kernel⟩
abbrev mX8_apart : zw_M := (yX8_apart, cX8_apart, 4, some .int, 0, fun _ => 0)
theorem my_X8_apart : zw_my mX8_apart 3 := ⟨zw_tp 876 (by decide +kernel) rfl, zw_tp 11 (by decide +kernel) rfl, by decide, by decide +kernel⟩
abbrev mX8_together : zw_M := (yX8_together, cX8_together, 4, some .int, 0, fun _ => 0)
theorem my_X8_together : zw_my mX8_together 3 := ⟨zw_tp 888 (by decide +kernel) rfl, zw_tp 11 (by decide +kernel) rfl, by decide, by decide +kernel⟩
abbrev mX8_noncrossing : zw_M := (yX8_noncrossing, cX8_noncrossing, 2, some .int, 0, fun _ => 0)
theorem my_X8_noncrossing : zw_my mX8_noncrossing 1 := ⟨zw_tp 892 (by decide +kernel) rfl, zw_tp 11 (by decide +kernel) rfl, by decide, by decide +kernel⟩
abbrev mX8_type : zw_M := (yX8_type, cX8_type, 2, some .int, 0, fun _ => 0)
theorem my_X8_type : zw_my mX8_type 1 := ⟨zw_tp 896 (by decide +kernel) rfl, zw_tp 11 (by decide +kernel) rfl, by decide, by decide +kernel⟩
abbrev mX8_clear : zw_M := (yX8_clear, cX8_clear, 2, some .int, 0, fun _ => 0)
theorem my_X8_clear : zw_my mX8_clear 0 := ⟨zw_tp 900 (by decide +kernel) rfl, zw_tp 11 (by decide +kernel) rfl, by decide, by decide +kernel⟩
abbrev mX8_isRegister : zw_M := (yX8_isRegister, cX8_isRegister, 1, some .boolean, 0, fun _ => 0)
theorem my_X8_isRegister : zw_my mX8_isRegister 1 := ⟨zw_tp 907 (by decide +kernel) rfl, zw_tp 11 (by decide +kernel) rfl, by decide, by decide +kernel⟩
abbrev mX8_held : zw_M := (yX8_held, cX8_held, 2, some .int, 0, fun _ => 0)
theorem my_X8_held : zw_my mX8_held 1 := ⟨zw_tp 939 (by decide +kernel) rfl, zw_tp 11 (by decide +kernel) rfl, by decide, by decide +kernel⟩
abbrev mX8_puts : zw_M := (yX8_puts, cX8_puts, 3, some .int, 0, fun _ => 0)
theorem my_X8_puts : zw_my mX8_puts 2 := ⟨zw_tp 919 (by decide +kernel) rfl, zw_tp 11 (by decide +kernel) rfl, by decide, by decide +kernel⟩
abbrev mX8_reads : zw_M := (yX8_reads, cX8_reads, 6, some .int, 0, fun _ => 0)
theorem my_X8_reads : zw_my mX8_reads 0 := ⟨zw_tp 911 (by decide +kernel) rfl, zw_tp 11 (by decide +kernel) rfl, by decide, by decide +kernel⟩
abbrev mX8_read : zw_M := (yX8_read, cX8_read, 3, some .int, 0, fun _ => 0)
theorem my_X8_read : zw_my mX8_read 1 := ⟨zw_tp 904 (by decide +kernel) rfl, zw_tp 11 (by decide +kernel) rfl, by decide, by decide +kernel⟩
abbrev mX8_finest : zw_M := (yX8_finest, cX8_finest, 2, some .int, 0, fun _ => 0)
theorem my_X8_finest : zw_my mX8_finest 1 := ⟨zw_tp 923 (by decide +kernel) rfl, zw_tp 11 (by decide +kernel) rfl, by decide, by decide +kernel⟩
abbrev mX8_coarsest : zw_M := (yX8_coarsest, cX8_coarsest, 2, some .int, 0, fun _ => 0)
theorem my_X8_coarsest : zw_my mX8_coarsest 1 := ⟨zw_tp 927 (by decide +kernel) rfl, zw_tp 11 (by decide +kernel) rfl, by decide, by decide +kernel⟩
abbrev mX8_wrong : zw_M := (yX8_wrong, cX8_wrong, 2, some .int, 0, fun _ => 0)
theorem my_X8_wrong : zw_my mX8_wrong 1 := ⟨zw_tp 935 (by decide +kernel) rfl, zw_tp 11 (by decide +kernel) rfl, by decide, by decide +kernel⟩
abbrev mX8_wrongOf : zw_M := (yX8_wrongOf, cX8_wrongOf, 3, some .int, 0, fun _ => 0)
theorem my_X8_wrongOf : zw_my mX8_wrongOf 2 := ⟨zw_tp 947 (by decide +kernel) rfl, zw_tp 11 (by decide +kernel) rfl, by decide, by decide +kernel⟩
abbrev mX8_copy : zw_M := (yX8_copy, cX8_copy, 4, some .int, 0, fun _ => 0)
theorem my_X8_copy : zw_my mX8_copy 2 := ⟨zw_tp 931 (by decide +kernel) rfl, zw_tp 11 (by decide +kernel) rfl, by decide, by decide +kernel⟩
abbrev mX8_meet : zw_M := (yX8_meet, cX8_meet, 6, some .int, 0, fun _ => 0)
theorem my_X8_meet : zw_my mX8_meet 3 := ⟨zw_tp 943 (by decide +kernel) rfl, zw_tp 11 (by decide +kernel) rfl, by decide, by decide +kernel⟩
abbrev mX8_merges : zw_M := (yX8_merges, cX8_merges, 4, none, 0, fun _ => 0)
theorem my_X8_merges : zw_my mX8_merges 2 := ⟨zw_tp 959 (by decide +kernel) rfl, zw_tp 11 (by decide +kernel) rfl, by decide, by decide +kernel⟩
abbrev mX8_join : zw_M := (yX8_join, cX8_join, 7, some .int, 0, fun _ => 0)
theorem my_X8_join : zw_my mX8_join 3 := ⟨zw_tp 951 (by decide +kernel) rfl, zw_tp 11 (by decide +kernel) rfl, by decide, by decide +kernel⟩
abbrev mX8_unite : zw_M := (yX8_unite, cX8_unite, 4, some .int, 0, fun _ => 0)
theorem my_X8_unite : zw_my mX8_unite 3 := ⟨zw_tp 963 (by decide +kernel) rfl, zw_tp 11 (by decide +kernel) rfl, by decide, by decide +kernel⟩
abbrev mX8_isolate : zw_M := (yX8_isolate, cX8_isolate, 3, some .int, 0, fun _ => 0)
theorem my_X8_isolate : zw_my mX8_isolate 2 := ⟨zw_tp 967 (by decide +kernel) rfl, zw_tp 11 (by decide +kernel) rfl, by decide, by decide +kernel⟩
abbrev mX8_changes : zw_M := (yX8_changes, cX8_changes, 4, some .int, 0, fun _ => 0)
theorem my_X8_changes : zw_my mX8_changes 2 := ⟨zw_tp 975 (by decide +kernel) rfl, zw_tp 11 (by decide +kernel) rfl, by decide, by decide +kernel⟩
abbrev mX8_swap : zw_M := (yX8_swap, cX8_swap, 5, some .int, 0, fun _ => 0)
theorem my_X8_swap : zw_my mX8_swap 3 := ⟨zw_tp 971 (by decide +kernel) rfl, zw_tp 11 (by decide +kernel) rfl, by decide, by decide +kernel⟩
abbrev mX8_rotate : zw_M := (yX8_rotate, cX8_rotate, 5, some .int, 0, fun _ => 0)
theorem my_X8_rotate : zw_my mX8_rotate 1 := ⟨zw_tp 979 (by decide +kernel) rfl, zw_tp 11 (by decide +kernel) rfl, by decide, by decide +kernel⟩
abbrev mX8_isParted : zw_M := (yX8_isParted, cX8_isParted, 6, some .boolean, 0, fun _ => 0)
theorem my_X8_isParted : zw_my mX8_isParted 3 := ⟨zw_tp 987 (by decide +kernel) rfl, zw_tp 11 (by decide +kernel) rfl, by decide, by decide +kernel⟩
abbrev mX8_complement : zw_M := (yX8_complement, cX8_complement, 7, some .int, 0, fun _ => 0)
theorem my_X8_complement : zw_my mX8_complement 2 := ⟨zw_tp 983 (by decide +kernel) rfl, zw_tp 11 (by decide +kernel) rfl, by decide, by decide +kernel⟩
abbrev mX8_admittedAt : zw_M := (yX8_admittedAt, cX8_admittedAt, 3, some .int, 0, fun _ => 0)
theorem my_X8_admittedAt : zw_my mX8_admittedAt 1 := ⟨zw_tp 995 (by decide +kernel) rfl, zw_tp 11 (by decide +kernel) rfl, by decide, by decide +kernel⟩
abbrev mX8_unrank : zw_M := (yX8_unrank, cX8_unrank, 3, some .int, 0, fun _ => 0)
theorem my_X8_unrank : zw_my mX8_unrank 2 := ⟨zw_tp 991 (by decide +kernel) rfl, zw_tp 11 (by decide +kernel) rfl, by decide, by decide +kernel⟩
abbrev mX8_nearest : zw_M := (yX8_nearest, cX8_nearest, 4, some .int, 0, fun _ => 0)
theorem my_X8_nearest : zw_my mX8_nearest 2 := ⟨zw_tp 1011 (by decide +kernel) rfl, zw_tp 11 (by decide +kernel) rfl, by decide, by decide +kernel⟩
abbrev mX8_steps : zw_M := (yX8_steps, cX8_steps, 5, some .int, 0, fun _ => 0)
theorem my_X8_steps : zw_my mX8_steps 2 := ⟨zw_tp 1007 (by decide +kernel) rfl, zw_tp 11 (by decide +kernel) rfl, by decide, by decide +kernel⟩
abbrev mX8_next : zw_M := (yX8_next, cX8_next, 2, some .int, 0, fun _ => 0)
theorem my_X8_next : zw_my mX8_next 1 := ⟨zw_tp 1003 (by decide +kernel) rfl, zw_tp 11 (by decide +kernel) rfl, by decide, by decide +kernel⟩
abbrev mX8_previous : zw_M := (yX8_previous, cX8_previous, 2, some .int, 0, fun _ => 0)
theorem my_X8_previous : zw_my mX8_previous 1 := ⟨zw_tp 1015 (by decide +kernel) rfl, zw_tp 11 (by decide +kernel) rfl, by decide, by decide +kernel⟩
abbrev mX8_draw : zw_M := (yX8_draw, cX8_draw, 5, some .int, 0, fun _ => 0)
theorem my_X8_draw : zw_my mX8_draw 2 := ⟨zw_tp 1019 (by decide +kernel) rfl, zw_tp 11 (by decide +kernel) rfl, by decide, by decide +kernel⟩
abbrev mX8_blocks : zw_M := (yX8_blocks, cX8_blocks, 3, some .int, 0, fun _ => 0)
theorem my_X8_blocks : zw_my mX8_blocks 1 := ⟨zw_tp 1024 (by decide +kernel) rfl, zw_tp 11 (by decide +kernel) rfl, by decide, by decide +kernel⟩
abbrev mX8_blockOf : zw_M := (yX8_blockOf, cX8_blockOf, 3, some .int, 0, fun _ => 0)
theorem my_X8_blockOf : zw_my mX8_blockOf 2 := ⟨zw_tp 1028 (by decide +kernel) rfl, zw_tp 11 (by decide +kernel) rfl, by decide, by decide +kernel⟩
abbrev mX8_block : zw_M := (yX8_block, cX8_block, 6, some .int, 0, fun _ => 0)
theorem my_X8_block : zw_my mX8_block 2 := ⟨zw_tp 1032 (by decide +kernel) rfl, zw_tp 11 (by decide +kernel) rfl, by decide, by decide +kernel⟩
abbrev mX8_typeOf : zw_M := (yX8_typeOf, cX8_typeOf, 5, some .int, 0, fun _ => 0)
theorem my_X8_typeOf : zw_my mX8_typeOf 1 := ⟨zw_tp 1036 (by decide +kernel) rfl, zw_tp 11 (by decide +kernel) rfl, by decide, by decide +kernel⟩
abbrev mX8_crossings : zw_M := (yX8_crossings, cX8_crossings, 6, some .int, 0, fun _ => 0)
theorem my_X8_crossings : zw_my mX8_crossings 1 := ⟨zw_tp 1040 (by decide +kernel) rfl, zw_tp 11 (by decide +kernel) rfl, by decide, by decide +kernel⟩
abbrev mX8_index : zw_M := (yX8_index, cX8_index, 3, some .int, 0, fun _ => 0)
theorem my_X8_index : zw_my mX8_index 1 := ⟨zw_tp 1044 (by decide +kernel) rfl, zw_tp 11 (by decide +kernel) rfl, by decide, by decide +kernel⟩
abbrev mX8_why : zw_M := (yX8_why, cX8_why, 3, some .int, 0, fun _ => 0)
theorem my_X8_why : zw_my mX8_why 1 := ⟨zw_tp 1048 (by decide +kernel) rfl, zw_tp 11 (by decide +kernel) rfl, by decide, by decide +kernel⟩
abbrev mX8_where : zw_M := (yX8_where, cX8_where, 3, some .int, 0, fun _ => 0)
theorem my_X8_where : zw_my mX8_where 1 := ⟨zw_tp 1052 (by decide +kernel) rfl, zw_tp 11 (by decide +kernel) rfl, by decide, by decide +kernel⟩
abbrev mX8_count : zw_M := (yX8_count, cX8_count, 1, some .int, 0, fun _ => 0)
theorem my_X8_count : zw_my mX8_count 0 := ⟨zw_tp 1060 (by decide +kernel) rfl, zw_tp 11 (by decide +kernel) rfl, by decide, by decide +kernel⟩
abbrev mX8_manyWith : zw_M := (yX8_manyWith, cX8_manyWith, 4, some .int, 0, fun _ => 0)
theorem my_X8_manyWith : zw_my mX8_manyWith 1 := ⟨zw_tp 1068 (by decide +kernel) rfl, zw_tp 11 (by decide +kernel) rfl, by decide, by decide +kernel⟩
abbrev mX8_countWith : zw_M := (yX8_countWith, cX8_countWith, 2, some .int, 0, fun _ => 0)
theorem my_X8_countWith : zw_my mX8_countWith 1 := ⟨zw_tp 1064 (by decide +kernel) rfl, zw_tp 11 (by decide +kernel) rfl, by decide, by decide +kernel⟩
abbrev mX8_below : zw_M := (yX8_below, cX8_below, 4, some .int, 0, fun _ => 0)
theorem my_X8_below : zw_my mX8_below 2 := ⟨zw_tp 1072 (by decide +kernel) rfl, zw_tp 11 (by decide +kernel) rfl, by decide, by decide +kernel⟩
abbrev mX8_isCover : zw_M := (yX8_isCover, cX8_isCover, 4, some .boolean, 0, fun _ => 0)
theorem my_X8_isCover : zw_my mX8_isCover 2 := ⟨zw_tp 1084 (by decide +kernel) rfl, zw_tp 11 (by decide +kernel) rfl, by decide, by decide +kernel⟩
abbrev mX8_covers : zw_M := (yX8_covers, cX8_covers, 7, some .int, 0, fun _ => 0)
theorem my_X8_covers : zw_my mX8_covers 2 := ⟨zw_tp 1080 (by decide +kernel) rfl, zw_tp 11 (by decide +kernel) rfl, by decide, by decide +kernel⟩
abbrev mX8_isBound : zw_M := (yX8_isBound, cX8_isBound, 5, some .boolean, 0, fun _ => 0)
theorem my_X8_isBound : zw_my mX8_isBound 4 := ⟨zw_tp 1100 (by decide +kernel) rfl, zw_tp 11 (by decide +kernel) rfl, by decide, by decide +kernel⟩
abbrev mX8_nearestBounds : zw_M := (yX8_nearestBounds, cX8_nearestBounds, 8, some .int, 0, fun _ => 0)
theorem my_X8_nearestBounds : zw_my mX8_nearestBounds 3 := ⟨zw_tp 1096 (by decide +kernel) rfl, zw_tp 11 (by decide +kernel) rfl, by decide, by decide +kernel⟩
abbrev mX8_bounds : zw_M := (yX8_bounds, cX8_bounds, 5, some .int, 0, fun _ => 0)
theorem my_X8_bounds : zw_my mX8_bounds 3 := ⟨zw_tp 1092 (by decide +kernel) rfl, zw_tp 11 (by decide +kernel) rfl, by decide, by decide +kernel⟩
abbrev mX8_bound : zw_M := (yX8_bound, cX8_bound, 6, some .int, 0, fun _ => 0)
theorem my_X8_bound : zw_my mX8_bound 4 := ⟨zw_tp 1104 (by decide +kernel) rfl, zw_tp 11 (by decide +kernel) rfl, by decide, by decide +kernel⟩
abbrev mX8_isBetween : zw_M := (yX8_isBetween, cX8_isBetween, 4, some .boolean, 0, fun _ => 0)
theorem my_X8_isBetween : zw_my mX8_isBetween 3 := ⟨zw_tp 1112 (by decide +kernel) rfl, zw_tp 11 (by decide +kernel) rfl, by decide, by decide +kernel⟩
abbrev mX8_interval : zw_M := (yX8_interval, cX8_interval, 6, some .int, 0, fun _ => 0)
theorem my_X8_interval : zw_my mX8_interval 2 := ⟨zw_tp 1108 (by decide +kernel) rfl, zw_tp 11 (by decide +kernel) rfl, by decide, by decide +kernel⟩
abbrev mX8_moebiuses : zw_M := (yX8_moebiuses, cX8_moebiuses, 6, none, 0, fun _ => 0)
theorem my_X8_moebiuses : zw_my mX8_moebiuses 2 := ⟨zw_tp 1125 (by decide +kernel) rfl, zw_tp 11 (by decide +kernel) rfl, by decide, by decide +kernel⟩
abbrev mX8_wrongAdmitted : zw_M := (yX8_wrongAdmitted, cX8_wrongAdmitted, 4, some .int, 0, fun _ => 0)
theorem my_X8_wrongAdmitted : zw_my mX8_wrongAdmitted 2 := ⟨zw_tp 1120 (by decide +kernel) rfl, zw_tp 11 (by decide +kernel) rfl, by decide, by decide +kernel⟩
abbrev mX8_moebius : zw_M := (yX8_moebius, cX8_moebius, 4, some .long, 0, fun _ => 0)
theorem my_X8_moebius : zw_my mX8_moebius 2 := ⟨zw_tp 1116 (by decide +kernel) rfl, zw_tp 11 (by decide +kernel) rfl, by decide, by decide +kernel⟩
abbrev mX8_extendsAll : zw_M := (yX8_extendsAll, cX8_extendsAll, 3, none, 0, fun _ => 0)
theorem my_X8_extendsAll : zw_my mX8_extendsAll 0 := ⟨zw_tp 1142 (by decide +kernel) rfl, zw_tp 11 (by decide +kernel) rfl, by decide, by decide +kernel⟩
abbrev mX8_single : zw_M := (yX8_single, cX8_single, 3, none, 0, fun _ => 0)
theorem my_X8_single : zw_my mX8_single 1 := ⟨zw_tp 1138 (by decide +kernel) rfl, zw_tp 11 (by decide +kernel) rfl, by decide, by decide +kernel⟩
abbrev mX8_chains : zw_M := (yX8_chains, cX8_chains, 6, some .long, 0, fun _ => 0)
theorem my_X8_chains : zw_my mX8_chains 3 := ⟨zw_tp 1133 (by decide +kernel) rfl, zw_tp 11 (by decide +kernel) rfl, by decide, by decide +kernel⟩
abbrev mX8_maximalChains : zw_M := (yX8_maximalChains, cX8_maximalChains, 7, some .long, 0, fun _ => 0)
theorem my_X8_maximalChains : zw_my mX8_maximalChains 2 := ⟨zw_tp 1146 (by decide +kernel) rfl, zw_tp 11 (by decide +kernel) rfl, by decide, by decide +kernel⟩
abbrev mX8_height : zw_M := (yX8_height, cX8_height, 6, some .int, 0, fun _ => 0)
theorem my_X8_height : zw_my mX8_height 2 := ⟨zw_tp 1150 (by decide +kernel) rfl, zw_tp 11 (by decide +kernel) rfl, by decide, by decide +kernel⟩
abbrev mX8_power : zw_M := (yX8_power, cX8_power, 5, some .long, 0, fun _ => 0)
theorem my_X8_power : zw_my mX8_power 2 := ⟨zw_tp 1160 (by decide +kernel) rfl, zw_tp 11 (by decide +kernel) rfl, by decide, by decide +kernel⟩
abbrev mX8_isBase : zw_M := (yX8_isBase, cX8_isBase, 1, some .boolean, 0, fun _ => 0)
theorem my_X8_isBase : zw_my mX8_isBase 1 := ⟨zw_tp 1157 (by decide +kernel) rfl, zw_tp 11 (by decide +kernel) rfl, by decide, by decide +kernel⟩
abbrev mX8_rankSum : zw_M := (yX8_rankSum, cX8_rankSum, 8, some .long, 0, fun _ => 0)
theorem my_X8_rankSum : zw_my mX8_rankSum 3 := ⟨zw_tp 1154 (by decide +kernel) rfl, zw_tp 11 (by decide +kernel) rfl, by decide, by decide +kernel⟩
abbrev mX8_characteristic : zw_M := (yX8_characteristic, cX8_characteristic, 8, some .long, 0, fun _ => 0)
theorem my_X8_characteristic : zw_my mX8_characteristic 3 := ⟨zw_tp 1164 (by decide +kernel) rfl, zw_tp 11 (by decide +kernel) rfl, by decide, by decide +kernel⟩
abbrev mX8_common : zw_M := (yX8_common, cX8_common, 7, some .int, 0, fun _ => 0)
theorem my_X8_common : zw_my mX8_common 4 := ⟨zw_tp 1176 (by decide +kernel) rfl, zw_tp 11 (by decide +kernel) rfl, by decide, by decide +kernel⟩
abbrev mX8_most : zw_M := (yX8_most, cX8_most, 8, some .int, 0, fun _ => 0)
theorem my_X8_most : zw_my mX8_most 2 := ⟨zw_tp 1172 (by decide +kernel) rfl, zw_tp 11 (by decide +kernel) rfl, by decide, by decide +kernel⟩
abbrev mX8_transfers : zw_M := (yX8_transfers, cX8_transfers, 4, some .int, 0, fun _ => 0)
theorem my_X8_transfers : zw_my mX8_transfers 2 := ⟨zw_tp 1168 (by decide +kernel) rfl, zw_tp 11 (by decide +kernel) rfl, by decide, by decide +kernel⟩
abbrev mX8_unlike : zw_M := (yX8_unlike, cX8_unlike, 6, some .int, 0, fun _ => 0)
theorem my_X8_unlike : zw_my mX8_unlike 2 := ⟨zw_tp 1184 (by decide +kernel) rfl, zw_tp 11 (by decide +kernel) rfl, by decide, by decide +kernel⟩
abbrev mX8_disagreements : zw_M := (yX8_disagreements, cX8_disagreements, 4, some .int, 0, fun _ => 0)
theorem my_X8_disagreements : zw_my mX8_disagreements 2 := ⟨zw_tp 1180 (by decide +kernel) rfl, zw_tp 11 (by decide +kernel) rfl, by decide, by decide +kernel⟩
abbrev mX8_unlikeAll : zw_M := (yX8_unlikeAll, cX8_unlikeAll, 5, some .int, 0, fun _ => 0)
theorem my_X8_unlikeAll : zw_my mX8_unlikeAll 2 := ⟨zw_tp 1192 (by decide +kernel) rfl, zw_tp 11 (by decide +kernel) rfl, by decide, by decide +kernel⟩
abbrev mX8_median : zw_M := (yX8_median, cX8_median, 7, some .int, 0, fun _ => 0)
theorem my_X8_median : zw_my mX8_median 2 := ⟨zw_tp 1188 (by decide +kernel) rfl, zw_tp 11 (by decide +kernel) rfl, by decide, by decide +kernel⟩
abbrev mX8_undo : zw_M := (yX8_undo, cX8_undo, 2, some .int, 0, fun _ => 0)
theorem my_X8_undo : zw_my mX8_undo 0 := ⟨zw_tp 1196 (by decide +kernel) rfl, zw_tp 11 (by decide +kernel) rfl, by decide, by decide +kernel⟩
abbrev mX8_bits : zw_M := (yX8_bits, cX8_bits, 3, some .int, 0, fun _ => 0)
theorem my_X8_bits : zw_my mX8_bits 1 := ⟨zw_tp 1207 (by decide +kernel) rfl, zw_tp 11 (by decide +kernel) rfl, by decide, by decide +kernel⟩
abbrev mX8_full : zw_M := (yX8_full, cX8_full, 3, some .int, 0, fun _ => 0)
theorem my_X8_full : zw_my mX8_full 0 := ⟨zw_tp 1204 (by decide +kernel) rfl, zw_tp 11 (by decide +kernel) rfl, by decide, by decide +kernel⟩
abbrev mX8_told : zw_M := (yX8_told, cX8_told, 2, some .int, 0, fun _ => 0)
theorem my_X8_told : zw_my mX8_told 1 := ⟨zw_tp 1200 (by decide +kernel) rfl, zw_tp 11 (by decide +kernel) rfl, by decide, by decide +kernel⟩
abbrev mX8_digest : zw_M := (yX8_digest, cX8_digest, 6, some .long, 0, fun _ => 0)
theorem my_X8_digest : zw_my mX8_digest 0 := ⟨zw_tp 1211 (by decide +kernel) rfl, zw_tp 11 (by decide +kernel) rfl, by decide, by decide +kernel⟩
abbrev mJ6_bitCount_0f7a4 : zw_M := (yJ6_bitCount_0f7a4, cJ6_bitCount_0f7a4, 1, some .int, 0, fun _ => 0)
theorem my_J6_bitCount_0f7a4 : zw_my mJ6_bitCount_0f7a4 1 := ⟨zw_tp 267 (by decide +kernel) rfl, zw_tp 10 (by decide +kernel) rfl, by decide, by decide +kernel⟩
abbrev mJ9_max_7cf53 : zw_M := (yJ9_max_7cf53, cJ9_max_7cf53, 2, some .int, 0, fun _ => 0)
theorem my_J9_max_7cf53 : zw_my mJ9_max_7cf53 2 := ⟨zw_tp 288 (by decide +kernel) rfl, zw_tp 9 (by decide +kernel) rfl, by decide, by decide +kernel⟩
abbrev mJ9_max_f86c9 : zw_M := (yJ9_max_f86c9, cJ9_max_f86c9, 4, some .long, 0, fun _ => 0)
theorem my_J9_max_f86c9 : zw_my mJ9_max_f86c9 2 := ⟨zw_tp 675 (by decide +kernel) rfl, zw_tp 9 (by decide +kernel) rfl, by decide, by decide +kernel⟩
abbrev mJ9_min_7cf53 : zw_M := (yJ9_min_7cf53, cJ9_min_7cf53, 2, some .int, 0, fun _ => 0)
theorem my_J9_min_7cf53 : zw_my mJ9_min_7cf53 2 := ⟨zw_tp 232 (by decide +kernel) rfl, zw_tp 9 (by decide +kernel) rfl, by decide, by decide +kernel⟩
abbrev mL_law (L : Nat) (xs : Nat → Int32) : zw_M := (yL_law, cL_law, 4, some .boolean, L + 1, xs)
theorem k_L_9 : Cond.methodLink RL 9 yX7_init ∈ zw_ts := zw_tp 14 (by decide +kernel) rfl
theorem i_X7_init : Cond.instanceMethod yX7_init ∈ zw_ts := zw_tp 15 (by decide +kernel) rfl
theorem k_L_12 : Cond.methodLink RL 12 yX8_init ∈ zw_ts := zw_tp 752 (by decide +kernel) rfl
theorem i_X8_init : Cond.instanceMethod yX8_init ∈ zw_ts := zw_tp 753 (by decide +kernel) rfl
theorem k_L_13 : Cond.methodLink RL 13 yX7_setSize ∈ zw_ts := zw_tp 328 (by decide +kernel) rfl
theorem i_X7_setSize : Cond.instanceMethod yX7_setSize ∈ zw_ts := zw_tp 329 (by decide +kernel) rfl
theorem s_X7_setSize : Cond.selects RX7 yX7_setSize yX7_setSize ∈ zw_ts := zw_tp 330 (by decide +kernel) rfl
theorem k_L_17 : Cond.methodLink RL 17 yX8_setSize ∈ zw_ts := zw_tp 846 (by decide +kernel) rfl
theorem i_X8_setSize : Cond.instanceMethod yX8_setSize ∈ zw_ts := zw_tp 847 (by decide +kernel) rfl
theorem s_X8_setSize : Cond.selects RX8 yX8_setSize yX8_setSize ∈ zw_ts := zw_tp 848 (by decide +kernel) rfl
theorem k_L_18 : Cond.methodLink RL 18 yX7_allowSize ∈ zw_ts := zw_tp 341 (by decide +kernel) rfl
theorem i_X7_allowSize : Cond.instanceMethod yX7_allowSize ∈ zw_ts := zw_tp 342 (by decide +kernel) rfl
theorem s_X7_allowSize : Cond.selects RX7 yX7_allowSize yX7_allowSize ∈ zw_ts := zw_tp 343 (by decide +kernel) rfl
theorem k_L_22 : Cond.methodLink RL 22 yX8_allowSize ∈ zw_ts := zw_tp 857 (by decide +kernel) rfl
theorem i_X8_allowSize : Cond.instanceMethod yX8_allowSize ∈ zw_ts := zw_tp 858 (by decide +kernel) rfl
theorem s_X8_allowSize : Cond.selects RX8 yX8_allowSize yX8_allowSize ∈ zw_ts := zw_tp 859 (by decide +kernel) rfl
theorem k_L_23 : Cond.methodLink RL 23 yX7_allowNumber ∈ zw_ts := zw_tp 348 (by decide +kernel) rfl
theorem i_X7_allowNumber : Cond.instanceMethod yX7_allowNumber ∈ zw_ts := zw_tp 349 (by decide +kernel) rfl
theorem s_X7_allowNumber : Cond.selects RX7 yX7_allowNumber yX7_allowNumber ∈ zw_ts := zw_tp 350 (by decide +kernel) rfl
theorem k_L_26 : Cond.methodLink RL 26 yX8_allowNumber ∈ zw_ts := zw_tp 869 (by decide +kernel) rfl
theorem i_X8_allowNumber : Cond.instanceMethod yX8_allowNumber ∈ zw_ts := zw_tp 870 (by decide +kernel) rfl
theorem s_X8_allowNumber : Cond.selects RX8 yX8_allowNumber yX8_allowNumber ∈ zw_ts := zw_tp 871 (by decide +kernel) rfl
theorem k_L_27 : Cond.methodLink RL 27 yX7_apart ∈ zw_ts := zw_tp 352 (by decide +kernel) rfl
theorem i_X7_apart : Cond.instanceMethod yX7_apart ∈ zw_ts := zw_tp 353 (by decide +kernel) rfl
theorem s_X7_apart : Cond.selects RX7 yX7_apart yX7_apart ∈ zw_ts := zw_tp 354 (by decide +kernel) rfl
theorem k_L_31 : Cond.methodLink RL 31 yX8_apart ∈ zw_ts := zw_tp 873 (by decide +kernel) rfl
theorem i_X8_apart : Cond.instanceMethod yX8_apart ∈ zw_ts := zw_tp 874 (by decide +kernel) rfl
theorem s_X8_apart : Cond.selects RX8 yX8_apart yX8_apart ∈ zw_ts := zw_tp 875 (by decide +kernel) rfl
theorem k_L_32 : Cond.methodLink RL 32 yX7_together ∈ zw_ts := zw_tp 361 (by decide +kernel) rfl
theorem i_X7_together : Cond.instanceMethod yX7_together ∈ zw_ts := zw_tp 362 (by decide +kernel) rfl
theorem s_X7_together : Cond.selects RX7 yX7_together yX7_together ∈ zw_ts := zw_tp 363 (by decide +kernel) rfl
theorem k_L_35 : Cond.methodLink RL 35 yX8_together ∈ zw_ts := zw_tp 885 (by decide +kernel) rfl
theorem i_X8_together : Cond.instanceMethod yX8_together ∈ zw_ts := zw_tp 886 (by decide +kernel) rfl
theorem s_X8_together : Cond.selects RX8 yX8_together yX8_together ∈ zw_ts := zw_tp 887 (by decide +kernel) rfl
theorem k_L_36 : Cond.methodLink RL 36 yX7_noncrossing ∈ zw_ts := zw_tp 365 (by decide +kernel) rfl
theorem i_X7_noncrossing : Cond.instanceMethod yX7_noncrossing ∈ zw_ts := zw_tp 366 (by decide +kernel) rfl
theorem s_X7_noncrossing : Cond.selects RX7 yX7_noncrossing yX7_noncrossing ∈ zw_ts := zw_tp 367 (by decide +kernel) rfl
theorem k_L_40 : Cond.methodLink RL 40 yX8_noncrossing ∈ zw_ts := zw_tp 889 (by decide +kernel) rfl
theorem i_X8_noncrossing : Cond.instanceMethod yX8_noncrossing ∈ zw_ts := zw_tp 890 (by decide +kernel) rfl
theorem s_X8_noncrossing : Cond.selects RX8 yX8_noncrossing yX8_noncrossing ∈ zw_ts := zw_tp 891 (by decide +kernel) rfl
theorem k_L_41 : Cond.methodLink RL 41 yX7_type ∈ zw_ts := zw_tp 369 (by decide +kernel) rfl
theorem i_X7_type : Cond.instanceMethod yX7_type ∈ zw_ts := zw_tp 370 (by decide +kernel) rfl
theorem s_X7_type : Cond.selects RX7 yX7_type yX7_type ∈ zw_ts := zw_tp 371 (by decide +kernel) rfl
theorem k_L_44 : Cond.methodLink RL 44 yX8_type ∈ zw_ts := zw_tp 893 (by decide +kernel) rfl
theorem i_X8_type : Cond.instanceMethod yX8_type ∈ zw_ts := zw_tp 894 (by decide +kernel) rfl
theorem s_X8_type : Cond.selects RX8 yX8_type yX8_type ∈ zw_ts := zw_tp 895 (by decide +kernel) rfl
theorem k_L_45 : Cond.methodLink RL 45 yX7_clear ∈ zw_ts := zw_tp 377 (by decide +kernel) rfl
theorem i_X7_clear : Cond.instanceMethod yX7_clear ∈ zw_ts := zw_tp 378 (by decide +kernel) rfl
theorem s_X7_clear : Cond.selects RX7 yX7_clear yX7_clear ∈ zw_ts := zw_tp 379 (by decide +kernel) rfl
theorem k_L_49 : Cond.methodLink RL 49 yX8_clear ∈ zw_ts := zw_tp 897 (by decide +kernel) rfl
theorem i_X8_clear : Cond.instanceMethod yX8_clear ∈ zw_ts := zw_tp 898 (by decide +kernel) rfl
theorem s_X8_clear : Cond.selects RX8 yX8_clear yX8_clear ∈ zw_ts := zw_tp 899 (by decide +kernel) rfl
theorem k_L_50 : Cond.methodLink RL 50 yX7_read ∈ zw_ts := zw_tp 381 (by decide +kernel) rfl
theorem i_X7_read : Cond.instanceMethod yX7_read ∈ zw_ts := zw_tp 382 (by decide +kernel) rfl
theorem s_X7_read : Cond.selects RX7 yX7_read yX7_read ∈ zw_ts := zw_tp 383 (by decide +kernel) rfl
theorem k_L_53 : Cond.methodLink RL 53 yX8_read ∈ zw_ts := zw_tp 901 (by decide +kernel) rfl
theorem i_X8_read : Cond.instanceMethod yX8_read ∈ zw_ts := zw_tp 902 (by decide +kernel) rfl
theorem s_X8_read : Cond.selects RX8 yX8_read yX8_read ∈ zw_ts := zw_tp 903 (by decide +kernel) rfl
theorem k_L_54 : Cond.methodLink RL 54 yX7_finest ∈ zw_ts := zw_tp 404 (by decide +kernel) rfl
theorem i_X7_finest : Cond.instanceMethod yX7_finest ∈ zw_ts := zw_tp 405 (by decide +kernel) rfl
theorem s_X7_finest : Cond.selects RX7 yX7_finest yX7_finest ∈ zw_ts := zw_tp 406 (by decide +kernel) rfl
theorem k_L_57 : Cond.methodLink RL 57 yX8_finest ∈ zw_ts := zw_tp 920 (by decide +kernel) rfl
theorem i_X8_finest : Cond.instanceMethod yX8_finest ∈ zw_ts := zw_tp 921 (by decide +kernel) rfl
theorem s_X8_finest : Cond.selects RX8 yX8_finest yX8_finest ∈ zw_ts := zw_tp 922 (by decide +kernel) rfl
theorem k_L_58 : Cond.methodLink RL 58 yX7_coarsest ∈ zw_ts := zw_tp 408 (by decide +kernel) rfl
theorem i_X7_coarsest : Cond.instanceMethod yX7_coarsest ∈ zw_ts := zw_tp 409 (by decide +kernel) rfl
theorem s_X7_coarsest : Cond.selects RX7 yX7_coarsest yX7_coarsest ∈ zw_ts := zw_tp 410 (by decide +kernel) rfl
theorem k_L_61 : Cond.methodLink RL 61 yX8_coarsest ∈ zw_ts := zw_tp 924 (by decide +kernel) rfl
theorem i_X8_coarsest : Cond.instanceMethod yX8_coarsest ∈ zw_ts := zw_tp 925 (by decide +kernel) rfl
theorem s_X8_coarsest : Cond.selects RX8 yX8_coarsest yX8_coarsest ∈ zw_ts := zw_tp 926 (by decide +kernel) rfl
theorem k_L_62 : Cond.methodLink RL 62 yX7_copy ∈ zw_ts := zw_tp 416 (by decide +kernel) rfl
theorem i_X7_copy : Cond.instanceMethod yX7_copy ∈ zw_ts := zw_tp 417 (by decide +kernel) rfl
theorem s_X7_copy : Cond.selects RX7 yX7_copy yX7_copy ∈ zw_ts := zw_tp 418 (by decide +kernel) rfl
theorem k_L_66 : Cond.methodLink RL 66 yX8_copy ∈ zw_ts := zw_tp 928 (by decide +kernel) rfl
theorem i_X8_copy : Cond.instanceMethod yX8_copy ∈ zw_ts := zw_tp 929 (by decide +kernel) rfl
theorem s_X8_copy : Cond.selects RX8 yX8_copy yX8_copy ∈ zw_ts := zw_tp 930 (by decide +kernel) rfl
theorem k_L_67 : Cond.methodLink RL 67 yX7_meet ∈ zw_ts := zw_tp 424 (by decide +kernel) rfl
theorem i_X7_meet : Cond.instanceMethod yX7_meet ∈ zw_ts := zw_tp 425 (by decide +kernel) rfl
theorem s_X7_meet : Cond.selects RX7 yX7_meet yX7_meet ∈ zw_ts := zw_tp 426 (by decide +kernel) rfl
theorem k_L_71 : Cond.methodLink RL 71 yX8_meet ∈ zw_ts := zw_tp 940 (by decide +kernel) rfl
theorem i_X8_meet : Cond.instanceMethod yX8_meet ∈ zw_ts := zw_tp 941 (by decide +kernel) rfl
theorem s_X8_meet : Cond.selects RX8 yX8_meet yX8_meet ∈ zw_ts := zw_tp 942 (by decide +kernel) rfl
theorem k_L_72 : Cond.methodLink RL 72 yX7_join ∈ zw_ts := zw_tp 428 (by decide +kernel) rfl
theorem i_X7_join : Cond.instanceMethod yX7_join ∈ zw_ts := zw_tp 429 (by decide +kernel) rfl
theorem s_X7_join : Cond.selects RX7 yX7_join yX7_join ∈ zw_ts := zw_tp 430 (by decide +kernel) rfl
theorem k_L_75 : Cond.methodLink RL 75 yX8_join ∈ zw_ts := zw_tp 948 (by decide +kernel) rfl
theorem i_X8_join : Cond.instanceMethod yX8_join ∈ zw_ts := zw_tp 949 (by decide +kernel) rfl
theorem s_X8_join : Cond.selects RX8 yX8_join yX8_join ∈ zw_ts := zw_tp 950 (by decide +kernel) rfl
theorem k_L_76 : Cond.methodLink RL 76 yX7_unite ∈ zw_ts := zw_tp 440 (by decide +kernel) rfl
theorem i_X7_unite : Cond.instanceMethod yX7_unite ∈ zw_ts := zw_tp 441 (by decide +kernel) rfl
theorem s_X7_unite : Cond.selects RX7 yX7_unite yX7_unite ∈ zw_ts := zw_tp 442 (by decide +kernel) rfl
theorem k_L_79 : Cond.methodLink RL 79 yX8_unite ∈ zw_ts := zw_tp 960 (by decide +kernel) rfl
theorem i_X8_unite : Cond.instanceMethod yX8_unite ∈ zw_ts := zw_tp 961 (by decide +kernel) rfl
theorem s_X8_unite : Cond.selects RX8 yX8_unite yX8_unite ∈ zw_ts := zw_tp 962 (by decide +kernel) rfl
theorem k_L_80 : Cond.methodLink RL 80 yX7_isolate ∈ zw_ts := zw_tp 444 (by decide +kernel) rfl
theorem i_X7_isolate : Cond.instanceMethod yX7_isolate ∈ zw_ts := zw_tp 445 (by decide +kernel) rfl
theorem s_X7_isolate : Cond.selects RX7 yX7_isolate yX7_isolate ∈ zw_ts := zw_tp 446 (by decide +kernel) rfl
theorem k_L_83 : Cond.methodLink RL 83 yX8_isolate ∈ zw_ts := zw_tp 964 (by decide +kernel) rfl
theorem i_X8_isolate : Cond.instanceMethod yX8_isolate ∈ zw_ts := zw_tp 965 (by decide +kernel) rfl
theorem s_X8_isolate : Cond.selects RX8 yX8_isolate yX8_isolate ∈ zw_ts := zw_tp 966 (by decide +kernel) rfl
theorem k_L_84 : Cond.methodLink RL 84 yX7_swap ∈ zw_ts := zw_tp 449 (by decide +kernel) rfl
theorem i_X7_swap : Cond.instanceMethod yX7_swap ∈ zw_ts := zw_tp 450 (by decide +kernel) rfl
theorem s_X7_swap : Cond.selects RX7 yX7_swap yX7_swap ∈ zw_ts := zw_tp 451 (by decide +kernel) rfl
theorem k_L_87 : Cond.methodLink RL 87 yX8_swap ∈ zw_ts := zw_tp 968 (by decide +kernel) rfl
theorem i_X8_swap : Cond.instanceMethod yX8_swap ∈ zw_ts := zw_tp 969 (by decide +kernel) rfl
theorem s_X8_swap : Cond.selects RX8 yX8_swap yX8_swap ∈ zw_ts := zw_tp 970 (by decide +kernel) rfl
theorem k_L_88 : Cond.methodLink RL 88 yX7_rotate ∈ zw_ts := zw_tp 458 (by decide +kernel) rfl
theorem i_X7_rotate : Cond.instanceMethod yX7_rotate ∈ zw_ts := zw_tp 459 (by decide +kernel) rfl
theorem s_X7_rotate : Cond.selects RX7 yX7_rotate yX7_rotate ∈ zw_ts := zw_tp 460 (by decide +kernel) rfl
theorem k_L_91 : Cond.methodLink RL 91 yX8_rotate ∈ zw_ts := zw_tp 976 (by decide +kernel) rfl
theorem i_X8_rotate : Cond.instanceMethod yX8_rotate ∈ zw_ts := zw_tp 977 (by decide +kernel) rfl
theorem s_X8_rotate : Cond.selects RX8 yX8_rotate yX8_rotate ∈ zw_ts := zw_tp 978 (by decide +kernel) rfl
theorem k_L_92 : Cond.methodLink RL 92 yX7_complement ∈ zw_ts := zw_tp 462 (by decide +kernel) rfl
theorem i_X7_complement : Cond.instanceMethod yX7_complement ∈ zw_ts := zw_tp 463 (by decide +kernel) rfl
theorem s_X7_complement : Cond.selects RX7 yX7_complement yX7_complement ∈ zw_ts := zw_tp 464 (by decide +kernel) rfl
theorem k_L_95 : Cond.methodLink RL 95 yX8_complement ∈ zw_ts := zw_tp 980 (by decide +kernel) rfl
theorem i_X8_complement : Cond.instanceMethod yX8_complement ∈ zw_ts := zw_tp 981 (by decide +kernel) rfl
theorem s_X8_complement : Cond.selects RX8 yX8_complement yX8_complement ∈ zw_ts := zw_tp 982 (by decide +kernel) rfl
theorem k_L_96 : Cond.methodLink RL 96 yX7_unrank ∈ zw_ts := zw_tp 477 (by decide +kernel) rfl
theorem i_X7_unrank : Cond.instanceMethod yX7_unrank ∈ zw_ts := zw_tp 478 (by decide +kernel) rfl
theorem s_X7_unrank : Cond.selects RX7 yX7_unrank yX7_unrank ∈ zw_ts := zw_tp 479 (by decide +kernel) rfl
theorem k_L_99 : Cond.methodLink RL 99 yX8_unrank ∈ zw_ts := zw_tp 988 (by decide +kernel) rfl
theorem i_X8_unrank : Cond.instanceMethod yX8_unrank ∈ zw_ts := zw_tp 989 (by decide +kernel) rfl
theorem s_X8_unrank : Cond.selects RX8 yX8_unrank yX8_unrank ∈ zw_ts := zw_tp 990 (by decide +kernel) rfl
theorem k_L_100 : Cond.methodLink RL 100 yX7_next ∈ zw_ts := zw_tp 485 (by decide +kernel) rfl
theorem i_X7_next : Cond.instanceMethod yX7_next ∈ zw_ts := zw_tp 486 (by decide +kernel) rfl
theorem s_X7_next : Cond.selects RX7 yX7_next yX7_next ∈ zw_ts := zw_tp 487 (by decide +kernel) rfl
theorem k_L_103 : Cond.methodLink RL 103 yX8_next ∈ zw_ts := zw_tp 1000 (by decide +kernel) rfl
theorem i_X8_next : Cond.instanceMethod yX8_next ∈ zw_ts := zw_tp 1001 (by decide +kernel) rfl
theorem s_X8_next : Cond.selects RX8 yX8_next yX8_next ∈ zw_ts := zw_tp 1002 (by decide +kernel) rfl
theorem k_L_104 : Cond.methodLink RL 104 yX7_previous ∈ zw_ts := zw_tp 498 (by decide +kernel) rfl
theorem i_X7_previous : Cond.instanceMethod yX7_previous ∈ zw_ts := zw_tp 499 (by decide +kernel) rfl
theorem s_X7_previous : Cond.selects RX7 yX7_previous yX7_previous ∈ zw_ts := zw_tp 500 (by decide +kernel) rfl
theorem k_L_107 : Cond.methodLink RL 107 yX8_previous ∈ zw_ts := zw_tp 1012 (by decide +kernel) rfl
theorem i_X8_previous : Cond.instanceMethod yX8_previous ∈ zw_ts := zw_tp 1013 (by decide +kernel) rfl
theorem s_X8_previous : Cond.selects RX8 yX8_previous yX8_previous ∈ zw_ts := zw_tp 1014 (by decide +kernel) rfl
theorem k_L_108 : Cond.methodLink RL 108 yX7_draw ∈ zw_ts := zw_tp 506 (by decide +kernel) rfl
theorem i_X7_draw : Cond.instanceMethod yX7_draw ∈ zw_ts := zw_tp 507 (by decide +kernel) rfl
theorem s_X7_draw : Cond.selects RX7 yX7_draw yX7_draw ∈ zw_ts := zw_tp 508 (by decide +kernel) rfl
theorem k_L_111 : Cond.methodLink RL 111 yX8_draw ∈ zw_ts := zw_tp 1016 (by decide +kernel) rfl
theorem i_X8_draw : Cond.instanceMethod yX8_draw ∈ zw_ts := zw_tp 1017 (by decide +kernel) rfl
theorem s_X8_draw : Cond.selects RX8 yX8_draw yX8_draw ∈ zw_ts := zw_tp 1018 (by decide +kernel) rfl
theorem k_L_112 : Cond.methodLink RL 112 yX7_blocks ∈ zw_ts := zw_tp 511 (by decide +kernel) rfl
theorem i_X7_blocks : Cond.instanceMethod yX7_blocks ∈ zw_ts := zw_tp 512 (by decide +kernel) rfl
theorem s_X7_blocks : Cond.selects RX7 yX7_blocks yX7_blocks ∈ zw_ts := zw_tp 513 (by decide +kernel) rfl
theorem k_L_115 : Cond.methodLink RL 115 yX8_blocks ∈ zw_ts := zw_tp 1021 (by decide +kernel) rfl
theorem i_X8_blocks : Cond.instanceMethod yX8_blocks ∈ zw_ts := zw_tp 1022 (by decide +kernel) rfl
theorem s_X8_blocks : Cond.selects RX8 yX8_blocks yX8_blocks ∈ zw_ts := zw_tp 1023 (by decide +kernel) rfl
theorem k_L_116 : Cond.methodLink RL 116 yX7_blockOf ∈ zw_ts := zw_tp 515 (by decide +kernel) rfl
theorem i_X7_blockOf : Cond.instanceMethod yX7_blockOf ∈ zw_ts := zw_tp 516 (by decide +kernel) rfl
theorem s_X7_blockOf : Cond.selects RX7 yX7_blockOf yX7_blockOf ∈ zw_ts := zw_tp 517 (by decide +kernel) rfl
theorem k_L_119 : Cond.methodLink RL 119 yX8_blockOf ∈ zw_ts := zw_tp 1025 (by decide +kernel) rfl
theorem i_X8_blockOf : Cond.instanceMethod yX8_blockOf ∈ zw_ts := zw_tp 1026 (by decide +kernel) rfl
theorem s_X8_blockOf : Cond.selects RX8 yX8_blockOf yX8_blockOf ∈ zw_ts := zw_tp 1027 (by decide +kernel) rfl
theorem k_L_120 : Cond.methodLink RL 120 yX7_block ∈ zw_ts := zw_tp 519 (by decide +kernel) rfl
theorem i_X7_block : Cond.instanceMethod yX7_block ∈ zw_ts := zw_tp 520 (by decide +kernel) rfl
theorem s_X7_block : Cond.selects RX7 yX7_block yX7_block ∈ zw_ts := zw_tp 521 (by decide +kernel) rfl
theorem k_L_123 : Cond.methodLink RL 123 yX8_block ∈ zw_ts := zw_tp 1029 (by decide +kernel) rfl
theorem i_X8_block : Cond.instanceMethod yX8_block ∈ zw_ts := zw_tp 1030 (by decide +kernel) rfl
theorem s_X8_block : Cond.selects RX8 yX8_block yX8_block ∈ zw_ts := zw_tp 1031 (by decide +kernel) rfl
theorem k_L_124 : Cond.methodLink RL 124 yX7_typeOf ∈ zw_ts := zw_tp 523 (by decide +kernel) rfl
theorem i_X7_typeOf : Cond.instanceMethod yX7_typeOf ∈ zw_ts := zw_tp 524 (by decide +kernel) rfl
theorem s_X7_typeOf : Cond.selects RX7 yX7_typeOf yX7_typeOf ∈ zw_ts := zw_tp 525 (by decide +kernel) rfl
theorem k_L_127 : Cond.methodLink RL 127 yX8_typeOf ∈ zw_ts := zw_tp 1033 (by decide +kernel) rfl
theorem i_X8_typeOf : Cond.instanceMethod yX8_typeOf ∈ zw_ts := zw_tp 1034 (by decide +kernel) rfl
theorem s_X8_typeOf : Cond.selects RX8 yX8_typeOf yX8_typeOf ∈ zw_ts := zw_tp 1035 (by decide +kernel) rfl
theorem k_L_128 : Cond.methodLink RL 128 yX7_crossings ∈ zw_ts := zw_tp 531 (by decide +kernel) rfl
theorem i_X7_crossings : Cond.instanceMethod yX7_crossings ∈ zw_ts := zw_tp 532 (by decide +kernel) rfl
theorem s_X7_crossings : Cond.selects RX7 yX7_crossings yX7_crossings ∈ zw_ts := zw_tp 533 (by decide +kernel) rfl
theorem k_L_131 : Cond.methodLink RL 131 yX8_crossings ∈ zw_ts := zw_tp 1037 (by decide +kernel) rfl
theorem i_X8_crossings : Cond.instanceMethod yX8_crossings ∈ zw_ts := zw_tp 1038 (by decide +kernel) rfl
theorem s_X8_crossings : Cond.selects RX8 yX8_crossings yX8_crossings ∈ zw_ts := zw_tp 1039 (by decide +kernel) rfl
theorem k_L_132 : Cond.methodLink RL 132 yX7_index ∈ zw_ts := zw_tp 539 (by decide +kernel) rfl
theorem i_X7_index : Cond.instanceMethod yX7_index ∈ zw_ts := zw_tp 540 (by decide +kernel) rfl
theorem s_X7_index : Cond.selects RX7 yX7_index yX7_index ∈ zw_ts := zw_tp 541 (by decide +kernel) rfl
theorem k_L_135 : Cond.methodLink RL 135 yX8_index ∈ zw_ts := zw_tp 1041 (by decide +kernel) rfl
theorem i_X8_index : Cond.instanceMethod yX8_index ∈ zw_ts := zw_tp 1042 (by decide +kernel) rfl
theorem s_X8_index : Cond.selects RX8 yX8_index yX8_index ∈ zw_ts := zw_tp 1043 (by decide +kernel) rfl
theorem k_L_136 : Cond.methodLink RL 136 yX7_why ∈ zw_ts := zw_tp 547 (by decide +kernel) rfl
theorem i_X7_why : Cond.instanceMethod yX7_why ∈ zw_ts := zw_tp 548 (by decide +kernel) rfl
theorem s_X7_why : Cond.selects RX7 yX7_why yX7_why ∈ zw_ts := zw_tp 549 (by decide +kernel) rfl
theorem k_L_139 : Cond.methodLink RL 139 yX8_why ∈ zw_ts := zw_tp 1045 (by decide +kernel) rfl
theorem i_X8_why : Cond.instanceMethod yX8_why ∈ zw_ts := zw_tp 1046 (by decide +kernel) rfl
theorem s_X8_why : Cond.selects RX8 yX8_why yX8_why ∈ zw_ts := zw_tp 1047 (by decide +kernel) rfl
theorem k_L_140 : Cond.methodLink RL 140 yX7_where ∈ zw_ts := zw_tp 553 (by decide +kernel) rfl
theorem i_X7_where : Cond.instanceMethod yX7_where ∈ zw_ts := zw_tp 554 (by decide +kernel) rfl
theorem s_X7_where : Cond.selects RX7 yX7_where yX7_where ∈ zw_ts := zw_tp 555 (by decide +kernel) rfl
theorem k_L_143 : Cond.methodLink RL 143 yX8_where ∈ zw_ts := zw_tp 1049 (by decide +kernel) rfl
theorem i_X8_where : Cond.instanceMethod yX8_where ∈ zw_ts := zw_tp 1050 (by decide +kernel) rfl
theorem s_X8_where : Cond.selects RX8 yX8_where yX8_where ∈ zw_ts := zw_tp 1051 (by decide +kernel) rfl
theorem k_L_144 : Cond.methodLink RL 144 yX7_count ∈ zw_ts := zw_tp 565 (by decide +kernel) rfl
theorem i_X7_count : Cond.instanceMethod yX7_count ∈ zw_ts := zw_tp 566 (by decide +kernel) rfl
theorem s_X7_count : Cond.selects RX7 yX7_count yX7_count ∈ zw_ts := zw_tp 567 (by decide +kernel) rfl
theorem k_L_147 : Cond.methodLink RL 147 yX8_count ∈ zw_ts := zw_tp 1057 (by decide +kernel) rfl
theorem i_X8_count : Cond.instanceMethod yX8_count ∈ zw_ts := zw_tp 1058 (by decide +kernel) rfl
theorem s_X8_count : Cond.selects RX8 yX8_count yX8_count ∈ zw_ts := zw_tp 1059 (by decide +kernel) rfl
theorem k_L_148 : Cond.methodLink RL 148 yX7_countWith ∈ zw_ts := zw_tp 569 (by decide +kernel) rfl
theorem i_X7_countWith : Cond.instanceMethod yX7_countWith ∈ zw_ts := zw_tp 570 (by decide +kernel) rfl
theorem s_X7_countWith : Cond.selects RX7 yX7_countWith yX7_countWith ∈ zw_ts := zw_tp 571 (by decide +kernel) rfl
theorem k_L_151 : Cond.methodLink RL 151 yX8_countWith ∈ zw_ts := zw_tp 1061 (by decide +kernel) rfl
theorem i_X8_countWith : Cond.instanceMethod yX8_countWith ∈ zw_ts := zw_tp 1062 (by decide +kernel) rfl
theorem s_X8_countWith : Cond.selects RX8 yX8_countWith yX8_countWith ∈ zw_ts := zw_tp 1063 (by decide +kernel) rfl
theorem k_L_152 : Cond.methodLink RL 152 yX7_below ∈ zw_ts := zw_tp 573 (by decide +kernel) rfl
theorem i_X7_below : Cond.instanceMethod yX7_below ∈ zw_ts := zw_tp 574 (by decide +kernel) rfl
theorem s_X7_below : Cond.selects RX7 yX7_below yX7_below ∈ zw_ts := zw_tp 575 (by decide +kernel) rfl
theorem k_L_155 : Cond.methodLink RL 155 yX8_below ∈ zw_ts := zw_tp 1069 (by decide +kernel) rfl
theorem i_X8_below : Cond.instanceMethod yX8_below ∈ zw_ts := zw_tp 1070 (by decide +kernel) rfl
theorem s_X8_below : Cond.selects RX8 yX8_below yX8_below ∈ zw_ts := zw_tp 1071 (by decide +kernel) rfl
theorem k_L_156 : Cond.methodLink RL 156 yX7_covers ∈ zw_ts := zw_tp 578 (by decide +kernel) rfl
theorem i_X7_covers : Cond.instanceMethod yX7_covers ∈ zw_ts := zw_tp 579 (by decide +kernel) rfl
theorem s_X7_covers : Cond.selects RX7 yX7_covers yX7_covers ∈ zw_ts := zw_tp 580 (by decide +kernel) rfl
theorem k_L_159 : Cond.methodLink RL 159 yX8_covers ∈ zw_ts := zw_tp 1077 (by decide +kernel) rfl
theorem i_X8_covers : Cond.instanceMethod yX8_covers ∈ zw_ts := zw_tp 1078 (by decide +kernel) rfl
theorem s_X8_covers : Cond.selects RX8 yX8_covers yX8_covers ∈ zw_ts := zw_tp 1079 (by decide +kernel) rfl
theorem k_L_160 : Cond.methodLink RL 160 yX7_bounds ∈ zw_ts := zw_tp 595 (by decide +kernel) rfl
theorem i_X7_bounds : Cond.instanceMethod yX7_bounds ∈ zw_ts := zw_tp 596 (by decide +kernel) rfl
theorem s_X7_bounds : Cond.selects RX7 yX7_bounds yX7_bounds ∈ zw_ts := zw_tp 597 (by decide +kernel) rfl
theorem k_L_163 : Cond.methodLink RL 163 yX8_bounds ∈ zw_ts := zw_tp 1089 (by decide +kernel) rfl
theorem i_X8_bounds : Cond.instanceMethod yX8_bounds ∈ zw_ts := zw_tp 1090 (by decide +kernel) rfl
theorem s_X8_bounds : Cond.selects RX8 yX8_bounds yX8_bounds ∈ zw_ts := zw_tp 1091 (by decide +kernel) rfl
theorem k_L_164 : Cond.methodLink RL 164 yX7_bound ∈ zw_ts := zw_tp 603 (by decide +kernel) rfl
theorem i_X7_bound : Cond.instanceMethod yX7_bound ∈ zw_ts := zw_tp 604 (by decide +kernel) rfl
theorem s_X7_bound : Cond.selects RX7 yX7_bound yX7_bound ∈ zw_ts := zw_tp 605 (by decide +kernel) rfl
theorem k_L_168 : Cond.methodLink RL 168 yX8_bound ∈ zw_ts := zw_tp 1101 (by decide +kernel) rfl
theorem i_X8_bound : Cond.instanceMethod yX8_bound ∈ zw_ts := zw_tp 1102 (by decide +kernel) rfl
theorem s_X8_bound : Cond.selects RX8 yX8_bound yX8_bound ∈ zw_ts := zw_tp 1103 (by decide +kernel) rfl
theorem k_L_169 : Cond.methodLink RL 169 yX7_interval ∈ zw_ts := zw_tp 607 (by decide +kernel) rfl
theorem i_X7_interval : Cond.instanceMethod yX7_interval ∈ zw_ts := zw_tp 608 (by decide +kernel) rfl
theorem s_X7_interval : Cond.selects RX7 yX7_interval yX7_interval ∈ zw_ts := zw_tp 609 (by decide +kernel) rfl
theorem k_L_172 : Cond.methodLink RL 172 yX8_interval ∈ zw_ts := zw_tp 1105 (by decide +kernel) rfl
theorem i_X8_interval : Cond.instanceMethod yX8_interval ∈ zw_ts := zw_tp 1106 (by decide +kernel) rfl
theorem s_X8_interval : Cond.selects RX8 yX8_interval yX8_interval ∈ zw_ts := zw_tp 1107 (by decide +kernel) rfl
theorem k_L_173 : Cond.methodLink RL 173 yX7_moebius ∈ zw_ts := zw_tp 620 (by decide +kernel) rfl
theorem i_X7_moebius : Cond.instanceMethod yX7_moebius ∈ zw_ts := zw_tp 621 (by decide +kernel) rfl
theorem s_X7_moebius : Cond.selects RX7 yX7_moebius yX7_moebius ∈ zw_ts := zw_tp 622 (by decide +kernel) rfl
theorem k_L_177 : Cond.methodLink RL 177 yX8_moebius ∈ zw_ts := zw_tp 1113 (by decide +kernel) rfl
theorem i_X8_moebius : Cond.instanceMethod yX8_moebius ∈ zw_ts := zw_tp 1114 (by decide +kernel) rfl
theorem s_X8_moebius : Cond.selects RX8 yX8_moebius yX8_moebius ∈ zw_ts := zw_tp 1115 (by decide +kernel) rfl
theorem k_L_178 : Cond.methodLink RL 178 yX7_chains ∈ zw_ts := zw_tp 641 (by decide +kernel) rfl
theorem i_X7_chains : Cond.instanceMethod yX7_chains ∈ zw_ts := zw_tp 642 (by decide +kernel) rfl
theorem s_X7_chains : Cond.selects RX7 yX7_chains yX7_chains ∈ zw_ts := zw_tp 643 (by decide +kernel) rfl
theorem k_L_182 : Cond.methodLink RL 182 yX8_chains ∈ zw_ts := zw_tp 1130 (by decide +kernel) rfl
theorem i_X8_chains : Cond.instanceMethod yX8_chains ∈ zw_ts := zw_tp 1131 (by decide +kernel) rfl
theorem s_X8_chains : Cond.selects RX8 yX8_chains yX8_chains ∈ zw_ts := zw_tp 1132 (by decide +kernel) rfl
theorem k_L_183 : Cond.methodLink RL 183 yX7_maximalChains ∈ zw_ts := zw_tp 649 (by decide +kernel) rfl
theorem i_X7_maximalChains : Cond.instanceMethod yX7_maximalChains ∈ zw_ts := zw_tp 650 (by decide +kernel) rfl
theorem s_X7_maximalChains : Cond.selects RX7 yX7_maximalChains yX7_maximalChains ∈ zw_ts := zw_tp 651 (by decide +kernel) rfl
theorem k_L_186 : Cond.methodLink RL 186 yX8_maximalChains ∈ zw_ts := zw_tp 1143 (by decide +kernel) rfl
theorem i_X8_maximalChains : Cond.instanceMethod yX8_maximalChains ∈ zw_ts := zw_tp 1144 (by decide +kernel) rfl
theorem s_X8_maximalChains : Cond.selects RX8 yX8_maximalChains yX8_maximalChains ∈ zw_ts := zw_tp 1145 (by decide +kernel) rfl
theorem k_L_187 : Cond.methodLink RL 187 yX7_height ∈ zw_ts := zw_tp 665 (by decide +kernel) rfl
theorem i_X7_height : Cond.instanceMethod yX7_height ∈ zw_ts := zw_tp 666 (by decide +kernel) rfl
theorem s_X7_height : Cond.selects RX7 yX7_height yX7_height ∈ zw_ts := zw_tp 667 (by decide +kernel) rfl
theorem k_L_190 : Cond.methodLink RL 190 yX8_height ∈ zw_ts := zw_tp 1147 (by decide +kernel) rfl
theorem i_X8_height : Cond.instanceMethod yX8_height ∈ zw_ts := zw_tp 1148 (by decide +kernel) rfl
theorem s_X8_height : Cond.selects RX8 yX8_height yX8_height ∈ zw_ts := zw_tp 1149 (by decide +kernel) rfl
theorem k_L_191 : Cond.methodLink RL 191 yX7_rankSum ∈ zw_ts := zw_tp 676 (by decide +kernel) rfl
theorem i_X7_rankSum : Cond.instanceMethod yX7_rankSum ∈ zw_ts := zw_tp 677 (by decide +kernel) rfl
theorem s_X7_rankSum : Cond.selects RX7 yX7_rankSum yX7_rankSum ∈ zw_ts := zw_tp 678 (by decide +kernel) rfl
theorem k_L_194 : Cond.methodLink RL 194 yX8_rankSum ∈ zw_ts := zw_tp 1151 (by decide +kernel) rfl
theorem i_X8_rankSum : Cond.instanceMethod yX8_rankSum ∈ zw_ts := zw_tp 1152 (by decide +kernel) rfl
theorem s_X8_rankSum : Cond.selects RX8 yX8_rankSum yX8_rankSum ∈ zw_ts := zw_tp 1153 (by decide +kernel) rfl
theorem k_L_195 : Cond.methodLink RL 195 yX7_characteristic ∈ zw_ts := zw_tp 686 (by decide +kernel) rfl
theorem i_X7_characteristic : Cond.instanceMethod yX7_characteristic ∈ zw_ts := zw_tp 687 (by decide +kernel) rfl
theorem s_X7_characteristic : Cond.selects RX7 yX7_characteristic yX7_characteristic ∈ zw_ts := zw_tp 688 (by decide +kernel) rfl
theorem k_L_198 : Cond.methodLink RL 198 yX8_characteristic ∈ zw_ts := zw_tp 1161 (by decide +kernel) rfl
theorem i_X8_characteristic : Cond.instanceMethod yX8_characteristic ∈ zw_ts := zw_tp 1162 (by decide +kernel) rfl
theorem s_X8_characteristic : Cond.selects RX8 yX8_characteristic yX8_characteristic ∈ zw_ts := zw_tp 1163 (by decide +kernel) rfl
theorem k_L_199 : Cond.methodLink RL 199 yX7_transfers ∈ zw_ts := zw_tp 690 (by decide +kernel) rfl
theorem i_X7_transfers : Cond.instanceMethod yX7_transfers ∈ zw_ts := zw_tp 691 (by decide +kernel) rfl
theorem s_X7_transfers : Cond.selects RX7 yX7_transfers yX7_transfers ∈ zw_ts := zw_tp 692 (by decide +kernel) rfl
theorem k_L_202 : Cond.methodLink RL 202 yX8_transfers ∈ zw_ts := zw_tp 1165 (by decide +kernel) rfl
theorem i_X8_transfers : Cond.instanceMethod yX8_transfers ∈ zw_ts := zw_tp 1166 (by decide +kernel) rfl
theorem s_X8_transfers : Cond.selects RX8 yX8_transfers yX8_transfers ∈ zw_ts := zw_tp 1167 (by decide +kernel) rfl
theorem k_L_203 : Cond.methodLink RL 203 yX7_disagreements ∈ zw_ts := zw_tp 704 (by decide +kernel) rfl
theorem i_X7_disagreements : Cond.instanceMethod yX7_disagreements ∈ zw_ts := zw_tp 705 (by decide +kernel) rfl
theorem s_X7_disagreements : Cond.selects RX7 yX7_disagreements yX7_disagreements ∈ zw_ts := zw_tp 706 (by decide +kernel) rfl
theorem k_L_206 : Cond.methodLink RL 206 yX8_disagreements ∈ zw_ts := zw_tp 1177 (by decide +kernel) rfl
theorem i_X8_disagreements : Cond.instanceMethod yX8_disagreements ∈ zw_ts := zw_tp 1178 (by decide +kernel) rfl
theorem s_X8_disagreements : Cond.selects RX8 yX8_disagreements yX8_disagreements ∈ zw_ts := zw_tp 1179 (by decide +kernel) rfl
theorem k_L_207 : Cond.methodLink RL 207 yX7_median ∈ zw_ts := zw_tp 708 (by decide +kernel) rfl
theorem i_X7_median : Cond.instanceMethod yX7_median ∈ zw_ts := zw_tp 709 (by decide +kernel) rfl
theorem s_X7_median : Cond.selects RX7 yX7_median yX7_median ∈ zw_ts := zw_tp 710 (by decide +kernel) rfl
theorem k_L_210 : Cond.methodLink RL 210 yX8_median ∈ zw_ts := zw_tp 1185 (by decide +kernel) rfl
theorem i_X8_median : Cond.instanceMethod yX8_median ∈ zw_ts := zw_tp 1186 (by decide +kernel) rfl
theorem s_X8_median : Cond.selects RX8 yX8_median yX8_median ∈ zw_ts := zw_tp 1187 (by decide +kernel) rfl
theorem k_L_211 : Cond.methodLink RL 211 yX7_undo ∈ zw_ts := zw_tp 716 (by decide +kernel) rfl
theorem i_X7_undo : Cond.instanceMethod yX7_undo ∈ zw_ts := zw_tp 717 (by decide +kernel) rfl
theorem s_X7_undo : Cond.selects RX7 yX7_undo yX7_undo ∈ zw_ts := zw_tp 718 (by decide +kernel) rfl
theorem k_L_214 : Cond.methodLink RL 214 yX8_undo ∈ zw_ts := zw_tp 1193 (by decide +kernel) rfl
theorem i_X8_undo : Cond.instanceMethod yX8_undo ∈ zw_ts := zw_tp 1194 (by decide +kernel) rfl
theorem s_X8_undo : Cond.selects RX8 yX8_undo yX8_undo ∈ zw_ts := zw_tp 1195 (by decide +kernel) rfl
theorem k_L_215 : Cond.methodLink RL 215 yX7_told ∈ zw_ts := zw_tp 724 (by decide +kernel) rfl
theorem i_X7_told : Cond.instanceMethod yX7_told ∈ zw_ts := zw_tp 725 (by decide +kernel) rfl
theorem s_X7_told : Cond.selects RX7 yX7_told yX7_told ∈ zw_ts := zw_tp 726 (by decide +kernel) rfl
theorem k_L_218 : Cond.methodLink RL 218 yX8_told ∈ zw_ts := zw_tp 1197 (by decide +kernel) rfl
theorem i_X8_told : Cond.instanceMethod yX8_told ∈ zw_ts := zw_tp 1198 (by decide +kernel) rfl
theorem s_X8_told : Cond.selects RX8 yX8_told yX8_told ∈ zw_ts := zw_tp 1199 (by decide +kernel) rfl
theorem k_L_219 : Cond.methodLink RL 219 yX7_digest ∈ zw_ts := zw_tp 732 (by decide +kernel) rfl
theorem i_X7_digest : Cond.instanceMethod yX7_digest ∈ zw_ts := zw_tp 733 (by decide +kernel) rfl
theorem s_X7_digest : Cond.selects RX7 yX7_digest yX7_digest ∈ zw_ts := zw_tp 734 (by decide +kernel) rfl
theorem k_L_223 : Cond.methodLink RL 223 yX8_digest ∈ zw_ts := zw_tp 1208 (by decide +kernel) rfl
theorem i_X8_digest : Cond.instanceMethod yX8_digest ∈ zw_ts := zw_tp 1209 (by decide +kernel) rfl
theorem s_X8_digest : Cond.selects RX8 yX8_digest yX8_digest ∈ zw_ts := zw_tp 1210 (by decide +kernel) rfl
theorem k_X0_3 : Cond.methodLink RX0 3 objectInit ∈ zw_ts := zw_tp 95 (by decide +kernel) rfl
theorem k_X0_33 : Cond.methodLinkNest RX0 33 yX3_init RX7 ∈ zw_nest := zw_np 98 rfl (by decide +kernel)
theorem i_X3_init : Cond.instanceMethod yX3_init ∈ zw_ts := zw_tp 99 (by decide +kernel) rfl
theorem k_X0_42 : Cond.methodLink RX0 42 yJ9_min_7cf53 ∈ zw_ts := zw_tp 230 (by decide +kernel) rfl
theorem t_J9_min_7cf53 : Cond.static yJ9_min_7cf53 ∈ zw_ts := zw_tp 231 (by decide +kernel) rfl
theorem k_X0_48 : Cond.methodLink RX0 48 yX0_enter ∈ zw_ts := zw_tp 233 (by decide +kernel) rfl
theorem i_X0_enter : Cond.instanceMethod yX0_enter ∈ zw_ts := zw_tp 234 (by decide +kernel) rfl
theorem s_X0_enter : Cond.selects RX0 yX0_enter yX0_enter ∈ zw_ts := zw_tp 235 (by decide +kernel) rfl
theorem k_X0_55 : Cond.methodLink RX0 55 yX0_advance ∈ zw_ts := zw_tp 278 (by decide +kernel) rfl
theorem i_X0_advance : Cond.instanceMethod yX0_advance ∈ zw_ts := zw_tp 279 (by decide +kernel) rfl
theorem s_X0_advance : Cond.selects RX0 yX0_advance yX0_advance ∈ zw_ts := zw_tp 280 (by decide +kernel) rfl
theorem k_X0_59 : Cond.methodLink RX0 59 yX0_pairsOfGrowth ∈ zw_ts := zw_tp 237 (by decide +kernel) rfl
theorem i_X0_pairsOfGrowth : Cond.instanceMethod yX0_pairsOfGrowth ∈ zw_ts := zw_tp 238 (by decide +kernel) rfl
theorem s_X0_pairsOfGrowth : Cond.selects RX0 yX0_pairsOfGrowth yX0_pairsOfGrowth ∈ zw_ts := zw_tp 239 (by decide +kernel) rfl
theorem k_X0_63 : Cond.methodLink RX0 63 yX3_spell ∈ zw_ts := zw_tp 245 (by decide +kernel) rfl
theorem i_X3_spell : Cond.instanceMethod yX3_spell ∈ zw_ts := zw_tp 246 (by decide +kernel) rfl
theorem s_X3_spell : Cond.selects RX3 yX3_spell yX3_spell ∈ zw_ts := zw_tp 247 (by decide +kernel) rfl
theorem k_X0_67 : Cond.methodLink RX0 67 yX3_growthNumber ∈ zw_ts := zw_tp 257 (by decide +kernel) rfl
theorem i_X3_growthNumber : Cond.instanceMethod yX3_growthNumber ∈ zw_ts := zw_tp 258 (by decide +kernel) rfl
theorem s_X3_growthNumber : Cond.selects RX3 yX3_growthNumber yX3_growthNumber ∈ zw_ts := zw_tp 259 (by decide +kernel) rfl
theorem k_X0_70 : Cond.methodLink RX0 70 yX3_sizeSet ∈ zw_ts := zw_tp 261 (by decide +kernel) rfl
theorem i_X3_sizeSet : Cond.instanceMethod yX3_sizeSet ∈ zw_ts := zw_tp 262 (by decide +kernel) rfl
theorem s_X3_sizeSet : Cond.selects RX3 yX3_sizeSet yX3_sizeSet ∈ zw_ts := zw_tp 263 (by decide +kernel) rfl
theorem k_X0_76 : Cond.methodLink RX0 76 yX3_firstCrossing ∈ zw_ts := zw_tp 271 (by decide +kernel) rfl
theorem i_X3_firstCrossing : Cond.instanceMethod yX3_firstCrossing ∈ zw_ts := zw_tp 272 (by decide +kernel) rfl
theorem s_X3_firstCrossing : Cond.selects RX3 yX3_firstCrossing yX3_firstCrossing ∈ zw_ts := zw_tp 273 (by decide +kernel) rfl
theorem k_X0_85 : Cond.methodLink RX0 85 yX0_greatestBefore ∈ zw_ts := zw_tp 282 (by decide +kernel) rfl
theorem i_X0_greatestBefore : Cond.instanceMethod yX0_greatestBefore ∈ zw_ts := zw_tp 283 (by decide +kernel) rfl
theorem s_X0_greatestBefore : Cond.selects RX0 yX0_greatestBefore yX0_greatestBefore ∈ zw_ts := zw_tp 284 (by decide +kernel) rfl
theorem k_X0_89 : Cond.methodLink RX0 89 yJ9_max_7cf53 ∈ zw_ts := zw_tp 286 (by decide +kernel) rfl
theorem t_J9_max_7cf53 : Cond.static yJ9_max_7cf53 ∈ zw_ts := zw_tp 287 (by decide +kernel) rfl
theorem k_X0_92 : Cond.methodLinkNest RX0 92 yX7_isBelow RX7 ∈ zw_nest := zw_np 436 rfl (by decide +kernel)
theorem t_X7_isBelow : Cond.static yX7_isBelow ∈ zw_ts := zw_tp 437 (by decide +kernel) rfl
theorem k_X0_96 : Cond.methodLinkNest RX0 96 yX7_allPairs RX7 ∈ zw_nest := zw_np 439 rfl (by decide +kernel)
theorem t_X7_allPairs : Cond.static yX7_allPairs ∈ zw_ts := zw_tp 413 (by decide +kernel) rfl
theorem k_X1_3 : Cond.methodLink RX1 3 objectInit ∈ zw_ts := zw_tp 61 (by decide +kernel) rfl
theorem k_X1_17 : Cond.methodLinkNest RX1 17 yX5_init RX7 ∈ zw_nest := zw_np 64 rfl (by decide +kernel)
theorem i_X5_init : Cond.instanceMethod yX5_init ∈ zw_ts := zw_tp 23 (by decide +kernel) rfl
theorem k_X1_22 : Cond.methodLink RX1 22 yX5_takeFrom ∈ zw_ts := zw_tp 336 (by decide +kernel) rfl
theorem i_X5_takeFrom : Cond.instanceMethod yX5_takeFrom ∈ zw_ts := zw_tp 337 (by decide +kernel) rfl
theorem s_X5_takeFrom : Cond.selects RX5 yX5_takeFrom yX5_takeFrom ∈ zw_ts := zw_tp 338 (by decide +kernel) rfl
theorem k_X1_29 : Cond.methodLink RX1 29 yJ9_min_7cf53 ∈ zw_ts := zw_tp 340 (by decide +kernel) rfl
theorem k_X2_3 : Cond.methodLink RX2 3 objectInit ∈ zw_ts := zw_tp 159 (by decide +kernel) rfl
theorem k_X2_43 : Cond.methodLink RX2 43 yX5_reason ∈ zw_ts := zw_tp 293 (by decide +kernel) rfl
theorem i_X5_reason : Cond.instanceMethod yX5_reason ∈ zw_ts := zw_tp 294 (by decide +kernel) rfl
theorem s_X5_reason : Cond.selects RX5 yX5_reason yX5_reason ∈ zw_ts := zw_tp 295 (by decide +kernel) rfl
theorem k_X2_53 : Cond.methodLinkNest RX2 53 yX7_isBelow RX7 ∈ zw_nest := zw_np 590 rfl (by decide +kernel)
theorem k_X2_57 : Cond.methodLink RX2 57 yX2_isBehindNearest ∈ zw_ts := zw_tp 591 (by decide +kernel) rfl
theorem i_X2_isBehindNearest : Cond.instanceMethod yX2_isBehindNearest ∈ zw_ts := zw_tp 592 (by decide +kernel) rfl
theorem s_X2_isBehindNearest : Cond.selects RX2 yX2_isBehindNearest yX2_isBehindNearest ∈ zw_ts := zw_tp 593 (by decide +kernel) rfl
theorem k_X3_3 : Cond.methodLink RX3 3 objectInit ∈ zw_ts := zw_tp 101 (by decide +kernel) rfl
theorem k_X3_18 : Cond.methodLink RX3 18 yJ9_min_7cf53 ∈ zw_ts := zw_tp 249 (by decide +kernel) rfl
theorem k_X3_31 : Cond.methodLink RX3 31 yX3_labelOfPartner ∈ zw_ts := zw_tp 250 (by decide +kernel) rfl
theorem i_X3_labelOfPartner : Cond.instanceMethod yX3_labelOfPartner ∈ zw_ts := zw_tp 251 (by decide +kernel) rfl
theorem s_X3_labelOfPartner : Cond.selects RX3 yX3_labelOfPartner yX3_labelOfPartner ∈ zw_ts := zw_tp 252 (by decide +kernel) rfl
theorem k_X3_34 : Cond.methodLinkNest RX3 34 yX7_pairBit RX7 ∈ zw_nest := zw_np 254 rfl (by decide +kernel)
theorem t_X7_pairBit : Cond.static yX7_pairBit ∈ zw_ts := zw_tp 255 (by decide +kernel) rfl
theorem k_X3_37 : Cond.methodLink RX3 37 yJ6_bitCount_0f7a4 ∈ zw_ts := zw_tp 265 (by decide +kernel) rfl
theorem t_J6_bitCount_0f7a4 : Cond.static yJ6_bitCount_0f7a4 ∈ zw_ts := zw_tp 266 (by decide +kernel) rfl
theorem k_X3_43 : Cond.methodLink RX3 43 yX3_areCrossing ∈ zw_ts := zw_tp 275 (by decide +kernel) rfl
theorem t_X3_areCrossing : Cond.static yX3_areCrossing ∈ zw_ts := zw_tp 276 (by decide +kernel) rfl
theorem k_X4_3 : Cond.methodLink RX4 3 objectInit ∈ zw_ts := zw_tp 195 (by decide +kernel) rfl
theorem k_X4_33 : Cond.methodLinkNest RX4 33 yX7_isBelow RX7 ∈ zw_nest := zw_np 619 rfl (by decide +kernel)
theorem k_X4_38 : Cond.methodLink RX4 38 yX4_startAtFirst ∈ zw_ts := zw_tp 629 (by decide +kernel) rfl
theorem i_X4_startAtFirst : Cond.instanceMethod yX4_startAtFirst ∈ zw_ts := zw_tp 630 (by decide +kernel) rfl
theorem s_X4_startAtFirst : Cond.selects RX4 yX4_startAtFirst yX4_startAtFirst ∈ zw_ts := zw_tp 631 (by decide +kernel) rfl
theorem k_X4_41 : Cond.methodLink RX4 41 yX4_sumStrictlyBelow ∈ zw_ts := zw_tp 633 (by decide +kernel) rfl
theorem i_X4_sumStrictlyBelow : Cond.instanceMethod yX4_sumStrictlyBelow ∈ zw_ts := zw_tp 634 (by decide +kernel) rfl
theorem s_X4_sumStrictlyBelow : Cond.selects RX4 yX4_sumStrictlyBelow yX4_sumStrictlyBelow ∈ zw_ts := zw_tp 635 (by decide +kernel) rfl
theorem k_X4_45 : Cond.methodLink RX4 45 yX4_sumCovered ∈ zw_ts := zw_tp 657 (by decide +kernel) rfl
theorem i_X4_sumCovered : Cond.instanceMethod yX4_sumCovered ∈ zw_ts := zw_tp 658 (by decide +kernel) rfl
theorem s_X4_sumCovered : Cond.selects RX4 yX4_sumCovered yX4_sumCovered ∈ zw_ts := zw_tp 659 (by decide +kernel) rfl
theorem k_X4_48 : Cond.methodLink RX4 48 yJ9_max_f86c9 ∈ zw_ts := zw_tp 673 (by decide +kernel) rfl
theorem t_J9_max_f86c9 : Cond.static yJ9_max_f86c9 ∈ zw_ts := zw_tp 674 (by decide +kernel) rfl
theorem k_X4_54 : Cond.methodLink RX4 54 yX4_isBelowCovered ∈ zw_ts := zw_tp 661 (by decide +kernel) rfl
theorem i_X4_isBelowCovered : Cond.instanceMethod yX4_isBelowCovered ∈ zw_ts := zw_tp 662 (by decide +kernel) rfl
theorem s_X4_isBelowCovered : Cond.selects RX4 yX4_isBelowCovered yX4_isBelowCovered ∈ zw_ts := zw_tp 663 (by decide +kernel) rfl
theorem k_X5_3 : Cond.methodLink RX5 3 objectInit ∈ zw_ts := zw_tp 25 (by decide +kernel) rfl
theorem k_X6_3 : Cond.methodLink RX6 3 objectInit ∈ zw_ts := zw_tp 81 (by decide +kernel) rfl
theorem k_X6_19 : Cond.methodLinkNest RX6 19 yX7_pairsWith RX7 ∈ zw_nest := zw_np 392 rfl (by decide +kernel)
theorem t_X7_pairsWith : Cond.static yX7_pairsWith ∈ zw_ts := zw_tp 393 (by decide +kernel) rfl
theorem k_X7_1 : Cond.methodLink RX7 1 objectInit ∈ zw_ts := zw_tp 17 (by decide +kernel) rfl
theorem k_X7_9 : Cond.methodLinkNest RX7 9 yX5_init RX7 ∈ zw_nest := zw_np 22 rfl (by decide +kernel)
theorem k_X7_18 : Cond.methodLink RX7 18 yX1_init ∈ zw_ts := zw_tp 58 (by decide +kernel) rfl
theorem i_X1_init : Cond.instanceMethod yX1_init ∈ zw_ts := zw_tp 59 (by decide +kernel) rfl
theorem k_X7_25 : Cond.methodLinkNest RX7 25 yX6_init RX7 ∈ zw_nest := zw_np 78 rfl (by decide +kernel)
theorem i_X6_init : Cond.instanceMethod yX6_init ∈ zw_ts := zw_tp 79 (by decide +kernel) rfl
theorem k_X7_32 : Cond.methodLinkNest RX7 32 yX0_init RX7 ∈ zw_nest := zw_np 92 rfl (by decide +kernel)
theorem i_X0_init : Cond.instanceMethod yX0_init ∈ zw_ts := zw_tp 93 (by decide +kernel) rfl
theorem k_X7_39 : Cond.methodLinkNest RX7 39 yX2_init RX7 ∈ zw_nest := zw_np 156 rfl (by decide +kernel)
theorem i_X2_init : Cond.instanceMethod yX2_init ∈ zw_ts := zw_tp 157 (by decide +kernel) rfl
theorem k_X7_46 : Cond.methodLinkNest RX7 46 yX4_init RX7 ∈ zw_nest := zw_np 192 rfl (by decide +kernel)
theorem i_X4_init : Cond.instanceMethod yX4_init ∈ zw_ts := zw_tp 193 (by decide +kernel) rfl
theorem k_X7_53 : Cond.methodLinkNest RX7 53 yX3_init RX7 ∈ zw_nest := zw_np 217 rfl (by decide +kernel)
theorem k_X7_68 : Cond.methodLink RX7 68 yX5_reset ∈ zw_ts := zw_tp 218 (by decide +kernel) rfl
theorem i_X5_reset : Cond.instanceMethod yX5_reset ∈ zw_ts := zw_tp 219 (by decide +kernel) rfl
theorem s_X5_reset : Cond.selects RX5 yX5_reset yX5_reset ∈ zw_ts := zw_tp 220 (by decide +kernel) rfl
theorem k_X7_72 : Cond.methodLink RX7 72 yX7_refresh ∈ zw_ts := zw_tp 222 (by decide +kernel) rfl
theorem i_X7_refresh : Cond.instanceMethod yX7_refresh ∈ zw_ts := zw_tp 224 (by decide +kernel) rfl
theorem s_X7_refresh : Cond.selects RX7 yX7_refresh yX7_refresh ∈ zw_ts := zw_sp (y := yX7_refresh) 0 (by decide +kernel)
theorem k_X7_79 : Cond.methodLink RX7 79 yX1_remember ∈ zw_ts := zw_tp 332 (by decide +kernel) rfl
theorem i_X1_remember : Cond.instanceMethod yX1_remember ∈ zw_ts := zw_tp 333 (by decide +kernel) rfl
theorem s_X1_remember : Cond.selects RX1 yX1_remember yX1_remember ∈ zw_ts := zw_tp 334 (by decide +kernel) rfl
theorem k_X7_86 : Cond.methodLink RX7 86 yX7_withBits ∈ zw_ts := zw_tp 345 (by decide +kernel) rfl
theorem t_X7_withBits : Cond.static yX7_withBits ∈ zw_ts := zw_tp 346 (by decide +kernel) rfl
theorem k_X7_93 : Cond.methodLink RX7 93 yX7_isElement ∈ zw_ts := zw_tp 356 (by decide +kernel) rfl
theorem i_X7_isElement : Cond.instanceMethod yX7_isElement ∈ zw_ts := zw_tp 358 (by decide +kernel) rfl
theorem s_X7_isElement : Cond.selects RX7 yX7_isElement yX7_isElement ∈ zw_ts := zw_sp (y := yX7_isElement) 1 (by decide +kernel)
theorem k_X7_97 : Cond.methodLink RX7 97 yX7_pairBit ∈ zw_ts := zw_tp 360 (by decide +kernel) rfl
theorem k_X7_111 : Cond.methodLink RX7 111 yX6_append ∈ zw_ts := zw_tp 373 (by decide +kernel) rfl
theorem i_X6_append : Cond.instanceMethod yX6_append ∈ zw_ts := zw_tp 374 (by decide +kernel) rfl
theorem s_X6_append : Cond.selects RX6 yX6_append yX6_append ∈ zw_ts := zw_tp 375 (by decide +kernel) rfl
theorem k_X7_117 : Cond.methodLink RX7 117 yX7_isRegister ∈ zw_ts := zw_tp 385 (by decide +kernel) rfl
theorem t_X7_isRegister : Cond.static yX7_isRegister ∈ zw_ts := zw_tp 386 (by decide +kernel) rfl
theorem k_X7_120 : Cond.methodLink RX7 120 yX6_parse ∈ zw_ts := zw_tp 388 (by decide +kernel) rfl
theorem i_X6_parse : Cond.instanceMethod yX6_parse ∈ zw_ts := zw_tp 389 (by decide +kernel) rfl
theorem s_X6_parse : Cond.selects RX6 yX6_parse yX6_parse ∈ zw_ts := zw_tp 390 (by decide +kernel) rfl
theorem k_X7_124 : Cond.methodLink RX7 124 yX7_put ∈ zw_ts := zw_tp 395 (by decide +kernel) rfl
theorem i_X7_put : Cond.instanceMethod yX7_put ∈ zw_ts := zw_tp 397 (by decide +kernel) rfl
theorem s_X7_put : Cond.selects RX7 yX7_put yX7_put ∈ zw_ts := zw_sp (y := yX7_put) 2 (by decide +kernel)
theorem k_X7_127 : Cond.methodLink RX7 127 yX7_allPairs ∈ zw_ts := zw_tp 412 (by decide +kernel) rfl
theorem k_X7_130 : Cond.methodLink RX7 130 yX7_faultOf ∈ zw_ts := zw_tp 420 (by decide +kernel) rfl
theorem i_X7_faultOf : Cond.instanceMethod yX7_faultOf ∈ zw_ts := zw_tp 422 (by decide +kernel) rfl
theorem s_X7_faultOf : Cond.selects RX7 yX7_faultOf yX7_faultOf ∈ zw_ts := zw_sp (y := yX7_faultOf) 4 (by decide +kernel)
theorem k_X7_136 : Cond.methodLink RX7 136 yX0_closure ∈ zw_ts := zw_tp 432 (by decide +kernel) rfl
theorem i_X0_closure : Cond.instanceMethod yX0_closure ∈ zw_ts := zw_tp 433 (by decide +kernel) rfl
theorem s_X0_closure : Cond.selects RX0 yX0_closure yX0_closure ∈ zw_ts := zw_tp 434 (by decide +kernel) rfl
theorem k_X7_139 : Cond.methodLink RX7 139 yX7_pairsWith ∈ zw_ts := zw_tp 448 (by decide +kernel) rfl
theorem k_X7_142 : Cond.methodLink RX7 142 yX7_moveElements ∈ zw_ts := zw_tp 453 (by decide +kernel) rfl
theorem i_X7_moveElements : Cond.instanceMethod yX7_moveElements ∈ zw_ts := zw_tp 455 (by decide +kernel) rfl
theorem s_X7_moveElements : Cond.selects RX7 yX7_moveElements yX7_moveElements ∈ zw_ts := zw_sp (y := yX7_moveElements) 5 (by decide +kernel)
theorem k_X7_145 : Cond.methodLink RX7 145 yX7_spellRegister ∈ zw_ts := zw_tp 466 (by decide +kernel) rfl
theorem i_X7_spellRegister : Cond.instanceMethod yX7_spellRegister ∈ zw_ts := zw_tp 468 (by decide +kernel) rfl
theorem s_X7_spellRegister : Cond.selects RX7 yX7_spellRegister yX7_spellRegister ∈ zw_ts := zw_sp (y := yX7_spellRegister) 6 (by decide +kernel)
theorem k_X7_148 : Cond.methodLink RX7 148 yX3_firstCrossing ∈ zw_ts := zw_tp 470 (by decide +kernel) rfl
theorem k_X7_152 : Cond.methodLink RX7 152 yX7_complementOf ∈ zw_ts := zw_tp 471 (by decide +kernel) rfl
theorem t_X7_complementOf : Cond.static yX7_complementOf ∈ zw_ts := zw_tp 472 (by decide +kernel) rfl
theorem k_X7_155 : Cond.methodLink RX7 155 yX2_has ∈ zw_ts := zw_tp 481 (by decide +kernel) rfl
theorem i_X2_has : Cond.instanceMethod yX2_has ∈ zw_ts := zw_tp 482 (by decide +kernel) rfl
theorem s_X2_has : Cond.selects RX2 yX2_has yX2_has ∈ zw_ts := zw_tp 483 (by decide +kernel) rfl
theorem k_X7_161 : Cond.methodLink RX7 161 yX3_growthNumber ∈ zw_ts := zw_tp 489 (by decide +kernel) rfl
theorem k_X7_164 : Cond.methodLink RX7 164 yX2_firstBehind ∈ zw_ts := zw_tp 490 (by decide +kernel) rfl
theorem i_X2_firstBehind : Cond.instanceMethod yX2_firstBehind ∈ zw_ts := zw_tp 491 (by decide +kernel) rfl
theorem s_X2_firstBehind : Cond.selects RX2 yX2_firstBehind yX2_firstBehind ∈ zw_ts := zw_tp 492 (by decide +kernel) rfl
theorem k_X7_167 : Cond.methodLink RX7 167 yX7_stepTo ∈ zw_ts := zw_tp 494 (by decide +kernel) rfl
theorem i_X7_stepTo : Cond.instanceMethod yX7_stepTo ∈ zw_ts := zw_tp 496 (by decide +kernel) rfl
theorem s_X7_stepTo : Cond.selects RX7 yX7_stepTo yX7_stepTo ∈ zw_ts := zw_sp (y := yX7_stepTo) 7 (by decide +kernel)
theorem k_X7_170 : Cond.methodLink RX7 170 yX2_lastBefore ∈ zw_ts := zw_tp 502 (by decide +kernel) rfl
theorem i_X2_lastBefore : Cond.instanceMethod yX2_lastBefore ∈ zw_ts := zw_tp 503 (by decide +kernel) rfl
theorem s_X2_lastBefore : Cond.selects RX2 yX2_lastBefore yX2_lastBefore ∈ zw_ts := zw_tp 504 (by decide +kernel) rfl
theorem k_X7_177 : Cond.methodLink RX7 177 yX7_blockCountOf ∈ zw_ts := zw_tp 399 (by decide +kernel) rfl
theorem i_X7_blockCountOf : Cond.instanceMethod yX7_blockCountOf ∈ zw_ts := zw_tp 401 (by decide +kernel) rfl
theorem s_X7_blockCountOf : Cond.selects RX7 yX7_blockCountOf yX7_blockCountOf ∈ zw_ts := zw_sp (y := yX7_blockCountOf) 3 (by decide +kernel)
theorem k_X7_189 : Cond.methodLink RX7 189 yX3_typeNumber ∈ zw_ts := zw_tp 527 (by decide +kernel) rfl
theorem i_X3_typeNumber : Cond.instanceMethod yX3_typeNumber ∈ zw_ts := zw_tp 528 (by decide +kernel) rfl
theorem s_X3_typeNumber : Cond.selects RX3 yX3_typeNumber yX3_typeNumber ∈ zw_ts := zw_tp 529 (by decide +kernel) rfl
theorem k_X7_192 : Cond.methodLink RX7 192 yX3_crossingCount ∈ zw_ts := zw_tp 535 (by decide +kernel) rfl
theorem i_X3_crossingCount : Cond.instanceMethod yX3_crossingCount ∈ zw_ts := zw_tp 536 (by decide +kernel) rfl
theorem s_X3_crossingCount : Cond.selects RX3 yX3_crossingCount yX3_crossingCount ∈ zw_ts := zw_tp 537 (by decide +kernel) rfl
theorem k_X7_195 : Cond.methodLink RX7 195 yX2_find ∈ zw_ts := zw_tp 543 (by decide +kernel) rfl
theorem i_X2_find : Cond.instanceMethod yX2_find ∈ zw_ts := zw_tp 544 (by decide +kernel) rfl
theorem s_X2_find : Cond.selects RX2 yX2_find yX2_find ∈ zw_ts := zw_tp 545 (by decide +kernel) rfl
theorem k_X7_198 : Cond.methodLink RX7 198 yX3_sizeSet ∈ zw_ts := zw_tp 551 (by decide +kernel) rfl
theorem k_X7_201 : Cond.methodLink RX7 201 yX5_reason ∈ zw_ts := zw_tp 552 (by decide +kernel) rfl
theorem k_X7_205 : Cond.methodLink RX7 205 yX7_why ∈ zw_ts := zw_tp 557 (by decide +kernel) rfl
theorem k_X7_208 : Cond.methodLink RX7 208 yX3_firstBlockNotIn ∈ zw_ts := zw_tp 558 (by decide +kernel) rfl
theorem i_X3_firstBlockNotIn : Cond.instanceMethod yX3_firstBlockNotIn ∈ zw_ts := zw_tp 559 (by decide +kernel) rfl
theorem s_X3_firstBlockNotIn : Cond.selects RX3 yX3_firstBlockNotIn yX3_firstBlockNotIn ∈ zw_ts := zw_tp 560 (by decide +kernel) rfl
theorem k_X7_211 : Cond.methodLink RX7 211 yX7_firstPair ∈ zw_ts := zw_tp 562 (by decide +kernel) rfl
theorem t_X7_firstPair : Cond.static yX7_firstPair ∈ zw_ts := zw_tp 563 (by decide +kernel) rfl
theorem k_X7_217 : Cond.methodLink RX7 217 yX7_isBelow ∈ zw_ts := zw_tp 577 (by decide +kernel) rfl
theorem k_X7_221 : Cond.methodLink RX7 221 yX7_faultOfAdmitted ∈ zw_ts := zw_tp 582 (by decide +kernel) rfl
theorem i_X7_faultOfAdmitted : Cond.instanceMethod yX7_faultOfAdmitted ∈ zw_ts := zw_tp 584 (by decide +kernel) rfl
theorem s_X7_faultOfAdmitted : Cond.selects RX7 yX7_faultOfAdmitted yX7_faultOfAdmitted ∈ zw_ts := zw_sp (y := yX7_faultOfAdmitted) 8 (by decide +kernel)
theorem k_X7_224 : Cond.methodLink RX7 224 yX2_findNearest ∈ zw_ts := zw_tp 586 (by decide +kernel) rfl
theorem i_X2_findNearest : Cond.instanceMethod yX2_findNearest ∈ zw_ts := zw_tp 587 (by decide +kernel) rfl
theorem s_X2_findNearest : Cond.selects RX2 yX2_findNearest yX2_findNearest ∈ zw_ts := zw_tp 588 (by decide +kernel) rfl
theorem k_X7_231 : Cond.methodLink RX7 231 yX7_findNearestBounds ∈ zw_ts := zw_tp 599 (by decide +kernel) rfl
theorem i_X7_findNearestBounds : Cond.instanceMethod yX7_findNearestBounds ∈ zw_ts := zw_tp 601 (by decide +kernel) rfl
theorem s_X7_findNearestBounds : Cond.selects RX7 yX7_findNearestBounds yX7_findNearestBounds ∈ zw_ts := zw_sp (y := yX7_findNearestBounds) 9 (by decide +kernel)
theorem k_X7_238 : Cond.methodLink RX7 238 yX7_selectSpan ∈ zw_ts := zw_tp 611 (by decide +kernel) rfl
theorem i_X7_selectSpan : Cond.instanceMethod yX7_selectSpan ∈ zw_ts := zw_tp 613 (by decide +kernel) rfl
theorem s_X7_selectSpan : Cond.selects RX7 yX7_selectSpan yX7_selectSpan ∈ zw_ts := zw_sp (y := yX7_selectSpan) 10 (by decide +kernel)
theorem k_X7_245 : Cond.methodLink RX7 245 yX4_putMoebius ∈ zw_ts := zw_tp 625 (by decide +kernel) rfl
theorem i_X4_putMoebius : Cond.instanceMethod yX4_putMoebius ∈ zw_ts := zw_tp 626 (by decide +kernel) rfl
theorem s_X4_putMoebius : Cond.selects RX4 yX4_putMoebius yX4_putMoebius ∈ zw_ts := zw_tp 627 (by decide +kernel) rfl
theorem k_X7_248 : Cond.methodLink RX7 248 yX4_lastValue ∈ zw_ts := zw_tp 637 (by decide +kernel) rfl
theorem i_X4_lastValue : Cond.instanceMethod yX4_lastValue ∈ zw_ts := zw_tp 638 (by decide +kernel) rfl
theorem s_X4_lastValue : Cond.selects RX4 yX4_lastValue yX4_lastValue ∈ zw_ts := zw_tp 639 (by decide +kernel) rfl
theorem k_X7_252 : Cond.methodLink RX7 252 yX4_putChains ∈ zw_ts := zw_tp 645 (by decide +kernel) rfl
theorem i_X4_putChains : Cond.instanceMethod yX4_putChains ∈ zw_ts := zw_tp 646 (by decide +kernel) rfl
theorem s_X4_putChains : Cond.selects RX4 yX4_putChains yX4_putChains ∈ zw_ts := zw_tp 647 (by decide +kernel) rfl
theorem k_X7_255 : Cond.methodLink RX7 255 yX4_putMaximalChains ∈ zw_ts := zw_tp 653 (by decide +kernel) rfl
theorem i_X4_putMaximalChains : Cond.instanceMethod yX4_putMaximalChains ∈ zw_ts := zw_tp 654 (by decide +kernel) rfl
theorem s_X4_putMaximalChains : Cond.selects RX4 yX4_putMaximalChains yX4_putMaximalChains ∈ zw_ts := zw_tp 655 (by decide +kernel) rfl
theorem k_X7_258 : Cond.methodLink RX7 258 yX4_putHeights ∈ zw_ts := zw_tp 669 (by decide +kernel) rfl
theorem i_X4_putHeights : Cond.instanceMethod yX4_putHeights ∈ zw_ts := zw_tp 670 (by decide +kernel) rfl
theorem s_X4_putHeights : Cond.selects RX4 yX4_putHeights yX4_putHeights ∈ zw_ts := zw_tp 671 (by decide +kernel) rfl
theorem k_X7_261 : Cond.methodLink RX7 261 yX7_isBase ∈ zw_ts := zw_tp 680 (by decide +kernel) rfl
theorem t_X7_isBase : Cond.static yX7_isBase ∈ zw_ts := zw_tp 681 (by decide +kernel) rfl
theorem k_X7_267 : Cond.methodLink RX7 267 yX7_power ∈ zw_ts := zw_tp 683 (by decide +kernel) rfl
theorem t_X7_power : Cond.static yX7_power ∈ zw_ts := zw_tp 684 (by decide +kernel) rfl
theorem k_X7_275 : Cond.methodLink RX7 275 yX3_spell ∈ zw_ts := zw_tp 403 (by decide +kernel) rfl
theorem k_X7_278 : Cond.methodLink RX7 278 yX7_mostThatStay ∈ zw_ts := zw_tp 694 (by decide +kernel) rfl
theorem i_X7_mostThatStay : Cond.instanceMethod yX7_mostThatStay ∈ zw_ts := zw_tp 696 (by decide +kernel) rfl
theorem s_X7_mostThatStay : Cond.selects RX7 yX7_mostThatStay yX7_mostThatStay ∈ zw_ts := zw_sp (y := yX7_mostThatStay) 11 (by decide +kernel)
theorem k_X7_281 : Cond.methodLink RX7 281 yJ6_bitCount_0f7a4 ∈ zw_ts := zw_tp 702 (by decide +kernel) rfl
theorem k_X7_286 : Cond.methodLink RX7 286 yX7_disagreementsWith ∈ zw_ts := zw_tp 712 (by decide +kernel) rfl
theorem i_X7_disagreementsWith : Cond.instanceMethod yX7_disagreementsWith ∈ zw_ts := zw_tp 714 (by decide +kernel) rfl
theorem s_X7_disagreementsWith : Cond.selects RX7 yX7_disagreementsWith yX7_disagreementsWith ∈ zw_ts := zw_sp (y := yX7_disagreementsWith) 13 (by decide +kernel)
theorem k_X7_289 : Cond.methodLink RX7 289 yX1_restore ∈ zw_ts := zw_tp 720 (by decide +kernel) rfl
theorem i_X1_restore : Cond.instanceMethod yX1_restore ∈ zw_ts := zw_tp 721 (by decide +kernel) rfl
theorem s_X1_restore : Cond.selects RX1 yX1_restore yX1_restore ∈ zw_ts := zw_tp 722 (by decide +kernel) rfl
theorem k_X7_296 : Cond.methodLink RX7 296 yX5_filledRegisters ∈ zw_ts := zw_tp 728 (by decide +kernel) rfl
theorem i_X5_filledRegisters : Cond.instanceMethod yX5_filledRegisters ∈ zw_ts := zw_tp 729 (by decide +kernel) rfl
theorem s_X5_filledRegisters : Cond.selects RX5 yX5_filledRegisters yX5_filledRegisters ∈ zw_ts := zw_tp 730 (by decide +kernel) rfl
theorem k_X7_303 : Cond.methodLink RX7 303 yX7_told ∈ zw_ts := zw_tp 738 (by decide +kernel) rfl
theorem k_X7_306 : Cond.methodLink RX7 306 yX7_count ∈ zw_ts := zw_tp 739 (by decide +kernel) rfl
theorem k_X7_309 : Cond.methodLink RX7 309 yX7_countWith ∈ zw_ts := zw_tp 740 (by decide +kernel) rfl
theorem k_X7_314 : Cond.methodLink RX7 314 yX7_hashOfRegister ∈ zw_ts := zw_tp 742 (by decide +kernel) rfl
theorem i_X7_hashOfRegister : Cond.instanceMethod yX7_hashOfRegister ∈ zw_ts := zw_tp 744 (by decide +kernel) rfl
theorem s_X7_hashOfRegister : Cond.selects RX7 yX7_hashOfRegister yX7_hashOfRegister ∈ zw_ts := zw_sp (y := yX7_hashOfRegister) 14 (by decide +kernel)
theorem k_X7_318 : Cond.methodLink RX7 318 yX7_blocks ∈ zw_ts := zw_tp 746 (by decide +kernel) rfl
theorem k_X7_321 : Cond.methodLink RX7 321 yX7_blockOf ∈ zw_ts := zw_tp 747 (by decide +kernel) rfl
theorem k_X7_324 : Cond.methodLink RX7 324 yX7_where ∈ zw_ts := zw_tp 748 (by decide +kernel) rfl
theorem k_X7_327 : Cond.methodLink RX7 327 yX7_index ∈ zw_ts := zw_tp 749 (by decide +kernel) rfl
theorem k_X7_330 : Cond.methodLink RX7 330 yX0_fill ∈ zw_ts := zw_tp 226 (by decide +kernel) rfl
theorem i_X0_fill : Cond.instanceMethod yX0_fill ∈ zw_ts := zw_tp 227 (by decide +kernel) rfl
theorem s_X0_fill : Cond.selects RX0 yX0_fill yX0_fill ∈ zw_ts := zw_tp 228 (by decide +kernel) rfl
theorem k_X7_333 : Cond.methodLink RX7 333 yX2_select ∈ zw_ts := zw_tp 289 (by decide +kernel) rfl
theorem i_X2_select : Cond.instanceMethod yX2_select ∈ zw_ts := zw_tp 290 (by decide +kernel) rfl
theorem s_X2_select : Cond.selects RX2 yX2_select yX2_select ∈ zw_ts := zw_tp 291 (by decide +kernel) rfl
theorem k_X7_343 : Cond.methodLink RX7 343 yX4_select ∈ zw_ts := zw_tp 615 (by decide +kernel) rfl
theorem i_X4_select : Cond.instanceMethod yX4_select ∈ zw_ts := zw_tp 616 (by decide +kernel) rfl
theorem s_X4_select : Cond.selects RX4 yX4_select yX4_select ∈ zw_ts := zw_tp 617 (by decide +kernel) rfl
theorem k_X7_346 : Cond.methodLink RX7 346 yX7_mostWithBlock ∈ zw_ts := zw_tp 698 (by decide +kernel) rfl
theorem i_X7_mostWithBlock : Cond.instanceMethod yX7_mostWithBlock ∈ zw_ts := zw_tp 700 (by decide +kernel) rfl
theorem s_X7_mostWithBlock : Cond.selects RX7 yX7_mostWithBlock yX7_mostWithBlock ∈ zw_ts := zw_sp (y := yX7_mostWithBlock) 12 (by decide +kernel)
theorem k_X7_349 : Cond.methodLink RX7 349 yJ9_max_7cf53 ∈ zw_ts := zw_tp 703 (by decide +kernel) rfl
theorem k_X7_354 : Cond.methodLink RX7 354 yX7_isSplit ∈ zw_ts := zw_tp 474 (by decide +kernel) rfl
theorem t_X7_isSplit : Cond.static yX7_isSplit ∈ zw_ts := zw_tp 475 (by decide +kernel) rfl
theorem k_X8_1 : Cond.methodLink RX8 1 objectInit ∈ zw_ts := zw_tp 755 (by decide +kernel) rfl
theorem k_X8_38 : Cond.methodLink RX8 38 yX8_starts ∈ zw_ts := zw_tp 756 (by decide +kernel) rfl
theorem i_X8_starts : Cond.instanceMethod yX8_starts ∈ zw_ts := zw_tp 758 (by decide +kernel) rfl
theorem s_X8_starts : Cond.selects RX8 yX8_starts yX8_starts ∈ zw_ts := zw_sp (y := yX8_starts) 15 (by decide +kernel)
theorem k_X8_42 : Cond.methodLink RX8 42 yX8_lays ∈ zw_ts := zw_tp 760 (by decide +kernel) rfl
theorem i_X8_lays : Cond.instanceMethod yX8_lays ∈ zw_ts := zw_tp 762 (by decide +kernel) rfl
theorem s_X8_lays : Cond.selects RX8 yX8_lays yX8_lays ∈ zw_ts := zw_sp (y := yX8_lays) 16 (by decide +kernel)
theorem k_X8_45 : Cond.methodLink RX8 45 yX8_admits ∈ zw_ts := zw_tp 768 (by decide +kernel) rfl
theorem i_X8_admits : Cond.instanceMethod yX8_admits ∈ zw_ts := zw_tp 770 (by decide +kernel) rfl
theorem s_X8_admits : Cond.selects RX8 yX8_admits yX8_admits ∈ zw_ts := zw_sp (y := yX8_admits) 18 (by decide +kernel)
theorem k_X8_55 : Cond.methodLink RX8 55 yX8_greatest ∈ zw_ts := zw_tp 764 (by decide +kernel) rfl
theorem i_X8_greatest : Cond.instanceMethod yX8_greatest ∈ zw_ts := zw_tp 766 (by decide +kernel) rfl
theorem s_X8_greatest : Cond.selects RX8 yX8_greatest yX8_greatest ∈ zw_ts := zw_sp (y := yX8_greatest) 17 (by decide +kernel)
theorem k_X8_62 : Cond.methodLink RX8 62 yX8_reason ∈ zw_ts := zw_tp 772 (by decide +kernel) rfl
theorem i_X8_reason : Cond.instanceMethod yX8_reason ∈ zw_ts := zw_tp 774 (by decide +kernel) rfl
theorem s_X8_reason : Cond.selects RX8 yX8_reason yX8_reason ∈ zw_ts := zw_sp (y := yX8_reason) 19 (by decide +kernel)
theorem k_X8_65 : Cond.methodLink RX8 65 yX8_at ∈ zw_ts := zw_tp 784 (by decide +kernel) rfl
theorem i_X8_at : Cond.instanceMethod yX8_at ∈ zw_ts := zw_tp 786 (by decide +kernel) rfl
theorem s_X8_at : Cond.selects RX8 yX8_at yX8_at ∈ zw_ts := zw_sp (y := yX8_at) 22 (by decide +kernel)
theorem k_X8_69 : Cond.methodLink RX8 69 yX8_areCrossing ∈ zw_ts := zw_tp 799 (by decide +kernel) rfl
theorem i_X8_areCrossing : Cond.instanceMethod yX8_areCrossing ∈ zw_ts := zw_tp 801 (by decide +kernel) rfl
theorem s_X8_areCrossing : Cond.selects RX8 yX8_areCrossing yX8_areCrossing ∈ zw_ts := zw_sp (y := yX8_areCrossing) 25 (by decide +kernel)
theorem k_X8_73 : Cond.methodLink RX8 73 yX8_bitOf ∈ zw_ts := zw_tp 792 (by decide +kernel) rfl
theorem t_X8_bitOf : Cond.static yX8_bitOf ∈ zw_ts := zw_tp 793 (by decide +kernel) rfl
theorem k_X8_76 : Cond.methodLink RX8 76 yX8_sizeOf ∈ zw_ts := zw_tp 780 (by decide +kernel) rfl
theorem i_X8_sizeOf : Cond.instanceMethod yX8_sizeOf ∈ zw_ts := zw_tp 782 (by decide +kernel) rfl
theorem s_X8_sizeOf : Cond.selects RX8 yX8_sizeOf yX8_sizeOf ∈ zw_ts := zw_sp (y := yX8_sizeOf) 21 (by decide +kernel)
theorem k_X8_79 : Cond.methodLink RX8 79 yX8_firstSize ∈ zw_ts := zw_tp 776 (by decide +kernel) rfl
theorem i_X8_firstSize : Cond.instanceMethod yX8_firstSize ∈ zw_ts := zw_tp 778 (by decide +kernel) rfl
theorem s_X8_firstSize : Cond.selects RX8 yX8_firstSize yX8_firstSize ∈ zw_ts := zw_sp (y := yX8_firstSize) 20 (by decide +kernel)
theorem k_X8_82 : Cond.methodLink RX8 82 yX8_firstPair ∈ zw_ts := zw_tp 788 (by decide +kernel) rfl
theorem i_X8_firstPair : Cond.instanceMethod yX8_firstPair ∈ zw_ts := zw_tp 790 (by decide +kernel) rfl
theorem s_X8_firstPair : Cond.selects RX8 yX8_firstPair yX8_firstPair ∈ zw_ts := zw_sp (y := yX8_firstPair) 23 (by decide +kernel)
theorem k_X8_86 : Cond.methodLink RX8 86 yX8_firstCrossing ∈ zw_ts := zw_tp 795 (by decide +kernel) rfl
theorem i_X8_firstCrossing : Cond.instanceMethod yX8_firstCrossing ∈ zw_ts := zw_tp 797 (by decide +kernel) rfl
theorem s_X8_firstCrossing : Cond.selects RX8 yX8_firstCrossing yX8_firstCrossing ∈ zw_ts := zw_sp (y := yX8_firstCrossing) 24 (by decide +kernel)
theorem k_X8_89 : Cond.methodLink RX8 89 yX8_isBelow ∈ zw_ts := zw_tp 1073 (by decide +kernel) rfl
theorem i_X8_isBelow : Cond.instanceMethod yX8_isBelow ∈ zw_ts := zw_tp 1075 (by decide +kernel) rfl
theorem s_X8_isBelow : Cond.selects RX8 yX8_isBelow yX8_isBelow ∈ zw_ts := zw_sp (y := yX8_isBelow) 47 (by decide +kernel)
theorem k_X8_93 : Cond.methodLink RX8 93 yX8_begins ∈ zw_ts := zw_tp 853 (by decide +kernel) rfl
theorem i_X8_begins : Cond.instanceMethod yX8_begins ∈ zw_ts := zw_tp 855 (by decide +kernel) rfl
theorem s_X8_begins : Cond.selects RX8 yX8_begins yX8_begins ∈ zw_ts := zw_sp (y := yX8_begins) 26 (by decide +kernel)
theorem k_X8_96 : Cond.methodLink RX8 96 yX8_in ∈ zw_ts := zw_tp 850 (by decide +kernel) rfl
theorem t_X8_in : Cond.static yX8_in ∈ zw_ts := zw_tp 851 (by decide +kernel) rfl
theorem k_X8_99 : Cond.methodLink RX8 99 yX8_sets ∈ zw_ts := zw_tp 865 (by decide +kernel) rfl
theorem i_X8_sets : Cond.instanceMethod yX8_sets ∈ zw_ts := zw_tp 867 (by decide +kernel) rfl
theorem s_X8_sets : Cond.selects RX8 yX8_sets yX8_sets ∈ zw_ts := zw_sp (y := yX8_sets) 28 (by decide +kernel)
theorem k_X8_102 : Cond.methodLink RX8 102 yX8_setsBit ∈ zw_ts := zw_tp 861 (by decide +kernel) rfl
theorem i_X8_setsBit : Cond.instanceMethod yX8_setsBit ∈ zw_ts := zw_tp 863 (by decide +kernel) rfl
theorem s_X8_setsBit : Cond.selects RX8 yX8_setsBit yX8_setsBit ∈ zw_ts := zw_sp (y := yX8_setsBit) 27 (by decide +kernel)
theorem k_X8_105 : Cond.methodLink RX8 105 yX8_isElement ∈ zw_ts := zw_tp 881 (by decide +kernel) rfl
theorem i_X8_isElement : Cond.instanceMethod yX8_isElement ∈ zw_ts := zw_tp 883 (by decide +kernel) rfl
theorem s_X8_isElement : Cond.selects RX8 yX8_isElement yX8_isElement ∈ zw_ts := zw_sp (y := yX8_isElement) 30 (by decide +kernel)
theorem k_X8_109 : Cond.methodLink RX8 109 yX8_isPair ∈ zw_ts := zw_tp 877 (by decide +kernel) rfl
theorem i_X8_isPair : Cond.instanceMethod yX8_isPair ∈ zw_ts := zw_tp 879 (by decide +kernel) rfl
theorem s_X8_isPair : Cond.selects RX8 yX8_isPair yX8_isPair ∈ zw_ts := zw_sp (y := yX8_isPair) 29 (by decide +kernel)
theorem k_X8_115 : Cond.methodLink RX8 115 yX8_isRegister ∈ zw_ts := zw_tp 905 (by decide +kernel) rfl
theorem t_X8_isRegister : Cond.static yX8_isRegister ∈ zw_ts := zw_tp 906 (by decide +kernel) rfl
theorem k_X8_118 : Cond.methodLink RX8 118 yX8_reads ∈ zw_ts := zw_tp 908 (by decide +kernel) rfl
theorem i_X8_reads : Cond.instanceMethod yX8_reads ∈ zw_ts := zw_tp 910 (by decide +kernel) rfl
theorem s_X8_reads : Cond.selects RX8 yX8_reads yX8_reads ∈ zw_ts := zw_sp (y := yX8_reads) 31 (by decide +kernel)
theorem k_X8_122 : Cond.methodLink RX8 122 yX8_numberOf ∈ zw_ts := zw_tp 912 (by decide +kernel) rfl
theorem i_X8_numberOf : Cond.instanceMethod yX8_numberOf ∈ zw_ts := zw_tp 914 (by decide +kernel) rfl
theorem s_X8_numberOf : Cond.selects RX8 yX8_numberOf yX8_numberOf ∈ zw_ts := zw_sp (y := yX8_numberOf) 32 (by decide +kernel)
theorem k_X8_125 : Cond.methodLink RX8 125 yX8_puts ∈ zw_ts := zw_tp 916 (by decide +kernel) rfl
theorem i_X8_puts : Cond.instanceMethod yX8_puts ∈ zw_ts := zw_tp 918 (by decide +kernel) rfl
theorem s_X8_puts : Cond.selects RX8 yX8_puts yX8_puts ∈ zw_ts := zw_sp (y := yX8_puts) 33 (by decide +kernel)
theorem k_X8_128 : Cond.methodLink RX8 128 yX8_held ∈ zw_ts := zw_tp 936 (by decide +kernel) rfl
theorem i_X8_held : Cond.instanceMethod yX8_held ∈ zw_ts := zw_tp 938 (by decide +kernel) rfl
theorem s_X8_held : Cond.selects RX8 yX8_held yX8_held ∈ zw_ts := zw_sp (y := yX8_held) 35 (by decide +kernel)
theorem k_X8_131 : Cond.methodLink RX8 131 yX8_wrong ∈ zw_ts := zw_tp 932 (by decide +kernel) rfl
theorem i_X8_wrong : Cond.instanceMethod yX8_wrong ∈ zw_ts := zw_tp 934 (by decide +kernel) rfl
theorem s_X8_wrong : Cond.selects RX8 yX8_wrong yX8_wrong ∈ zw_ts := zw_sp (y := yX8_wrong) 34 (by decide +kernel)
theorem k_X8_134 : Cond.methodLink RX8 134 yX8_wrongOf ∈ zw_ts := zw_tp 944 (by decide +kernel) rfl
theorem i_X8_wrongOf : Cond.instanceMethod yX8_wrongOf ∈ zw_ts := zw_tp 946 (by decide +kernel) rfl
theorem s_X8_wrongOf : Cond.selects RX8 yX8_wrongOf yX8_wrongOf ∈ zw_ts := zw_sp (y := yX8_wrongOf) 36 (by decide +kernel)
theorem k_X8_137 : Cond.methodLink RX8 137 yX8_takes ∈ zw_ts := zw_tp 952 (by decide +kernel) rfl
theorem i_X8_takes : Cond.instanceMethod yX8_takes ∈ zw_ts := zw_tp 954 (by decide +kernel) rfl
theorem s_X8_takes : Cond.selects RX8 yX8_takes yX8_takes ∈ zw_ts := zw_sp (y := yX8_takes) 37 (by decide +kernel)
theorem k_X8_140 : Cond.methodLink RX8 140 yX8_merges ∈ zw_ts := zw_tp 956 (by decide +kernel) rfl
theorem i_X8_merges : Cond.instanceMethod yX8_merges ∈ zw_ts := zw_tp 958 (by decide +kernel) rfl
theorem s_X8_merges : Cond.selects RX8 yX8_merges yX8_merges ∈ zw_ts := zw_sp (y := yX8_merges) 38 (by decide +kernel)
theorem k_X8_144 : Cond.methodLink RX8 144 yX8_changes ∈ zw_ts := zw_tp 972 (by decide +kernel) rfl
theorem i_X8_changes : Cond.instanceMethod yX8_changes ∈ zw_ts := zw_tp 974 (by decide +kernel) rfl
theorem s_X8_changes : Cond.selects RX8 yX8_changes yX8_changes ∈ zw_ts := zw_sp (y := yX8_changes) 39 (by decide +kernel)
theorem k_X8_147 : Cond.methodLink RX8 147 yX8_isParted ∈ zw_ts := zw_tp 984 (by decide +kernel) rfl
theorem i_X8_isParted : Cond.instanceMethod yX8_isParted ∈ zw_ts := zw_tp 986 (by decide +kernel) rfl
theorem s_X8_isParted : Cond.selects RX8 yX8_isParted yX8_isParted ∈ zw_ts := zw_sp (y := yX8_isParted) 40 (by decide +kernel)
theorem k_X8_150 : Cond.methodLink RX8 150 yX8_isAdmitted ∈ zw_ts := zw_tp 996 (by decide +kernel) rfl
theorem i_X8_isAdmitted : Cond.instanceMethod yX8_isAdmitted ∈ zw_ts := zw_tp 998 (by decide +kernel) rfl
theorem s_X8_isAdmitted : Cond.selects RX8 yX8_isAdmitted yX8_isAdmitted ∈ zw_ts := zw_sp (y := yX8_isAdmitted) 42 (by decide +kernel)
theorem k_X8_153 : Cond.methodLink RX8 153 yX8_admittedAt ∈ zw_ts := zw_tp 992 (by decide +kernel) rfl
theorem i_X8_admittedAt : Cond.instanceMethod yX8_admittedAt ∈ zw_ts := zw_tp 994 (by decide +kernel) rfl
theorem s_X8_admittedAt : Cond.selects RX8 yX8_admittedAt yX8_admittedAt ∈ zw_ts := zw_sp (y := yX8_admittedAt) 41 (by decide +kernel)
theorem k_X8_156 : Cond.methodLink RX8 156 yX8_nearest ∈ zw_ts := zw_tp 1008 (by decide +kernel) rfl
theorem i_X8_nearest : Cond.instanceMethod yX8_nearest ∈ zw_ts := zw_tp 1010 (by decide +kernel) rfl
theorem s_X8_nearest : Cond.selects RX8 yX8_nearest yX8_nearest ∈ zw_ts := zw_sp (y := yX8_nearest) 44 (by decide +kernel)
theorem k_X8_159 : Cond.methodLink RX8 159 yX8_steps ∈ zw_ts := zw_tp 1004 (by decide +kernel) rfl
theorem i_X8_steps : Cond.instanceMethod yX8_steps ∈ zw_ts := zw_tp 1006 (by decide +kernel) rfl
theorem s_X8_steps : Cond.selects RX8 yX8_steps yX8_steps ∈ zw_ts := zw_sp (y := yX8_steps) 43 (by decide +kernel)
theorem k_X8_163 : Cond.methodLink RX8 163 yX8_placeOf ∈ zw_ts := zw_tp 1053 (by decide +kernel) rfl
theorem i_X8_placeOf : Cond.instanceMethod yX8_placeOf ∈ zw_ts := zw_tp 1055 (by decide +kernel) rfl
theorem s_X8_placeOf : Cond.selects RX8 yX8_placeOf yX8_placeOf ∈ zw_ts := zw_sp (y := yX8_placeOf) 45 (by decide +kernel)
theorem k_X8_166 : Cond.methodLink RX8 166 yX8_manyWith ∈ zw_ts := zw_tp 1065 (by decide +kernel) rfl
theorem i_X8_manyWith : Cond.instanceMethod yX8_manyWith ∈ zw_ts := zw_tp 1067 (by decide +kernel) rfl
theorem s_X8_manyWith : Cond.selects RX8 yX8_manyWith yX8_manyWith ∈ zw_ts := zw_sp (y := yX8_manyWith) 46 (by decide +kernel)
theorem k_X8_169 : Cond.methodLink RX8 169 yX8_isStrictly ∈ zw_ts := zw_tp 1085 (by decide +kernel) rfl
theorem i_X8_isStrictly : Cond.instanceMethod yX8_isStrictly ∈ zw_ts := zw_tp 1087 (by decide +kernel) rfl
theorem s_X8_isStrictly : Cond.selects RX8 yX8_isStrictly yX8_isStrictly ∈ zw_ts := zw_sp (y := yX8_isStrictly) 49 (by decide +kernel)
theorem k_X8_172 : Cond.methodLink RX8 172 yX8_isCover ∈ zw_ts := zw_tp 1081 (by decide +kernel) rfl
theorem i_X8_isCover : Cond.instanceMethod yX8_isCover ∈ zw_ts := zw_tp 1083 (by decide +kernel) rfl
theorem s_X8_isCover : Cond.selects RX8 yX8_isCover yX8_isCover ∈ zw_ts := zw_sp (y := yX8_isCover) 48 (by decide +kernel)
theorem k_X8_175 : Cond.methodLink RX8 175 yX8_isBound ∈ zw_ts := zw_tp 1097 (by decide +kernel) rfl
theorem i_X8_isBound : Cond.instanceMethod yX8_isBound ∈ zw_ts := zw_tp 1099 (by decide +kernel) rfl
theorem s_X8_isBound : Cond.selects RX8 yX8_isBound yX8_isBound ∈ zw_ts := zw_sp (y := yX8_isBound) 51 (by decide +kernel)
theorem k_X8_182 : Cond.methodLink RX8 182 yX8_nearestBounds ∈ zw_ts := zw_tp 1093 (by decide +kernel) rfl
theorem i_X8_nearestBounds : Cond.instanceMethod yX8_nearestBounds ∈ zw_ts := zw_tp 1095 (by decide +kernel) rfl
theorem s_X8_nearestBounds : Cond.selects RX8 yX8_nearestBounds yX8_nearestBounds ∈ zw_ts := zw_sp (y := yX8_nearestBounds) 50 (by decide +kernel)
theorem k_X8_185 : Cond.methodLink RX8 185 yX8_isBetween ∈ zw_ts := zw_tp 1109 (by decide +kernel) rfl
theorem i_X8_isBetween : Cond.instanceMethod yX8_isBetween ∈ zw_ts := zw_tp 1111 (by decide +kernel) rfl
theorem s_X8_isBetween : Cond.selects RX8 yX8_isBetween yX8_isBetween ∈ zw_ts := zw_sp (y := yX8_isBetween) 52 (by decide +kernel)
theorem k_X8_188 : Cond.methodLink RX8 188 yX8_rank ∈ zw_ts := zw_tp 1126 (by decide +kernel) rfl
theorem i_X8_rank : Cond.instanceMethod yX8_rank ∈ zw_ts := zw_tp 1128 (by decide +kernel) rfl
theorem s_X8_rank : Cond.selects RX8 yX8_rank yX8_rank ∈ zw_ts := zw_sp (y := yX8_rank) 55 (by decide +kernel)
theorem k_X8_191 : Cond.methodLink RX8 191 yX8_wrongAdmitted ∈ zw_ts := zw_tp 1117 (by decide +kernel) rfl
theorem i_X8_wrongAdmitted : Cond.instanceMethod yX8_wrongAdmitted ∈ zw_ts := zw_tp 1119 (by decide +kernel) rfl
theorem s_X8_wrongAdmitted : Cond.selects RX8 yX8_wrongAdmitted yX8_wrongAdmitted ∈ zw_ts := zw_sp (y := yX8_wrongAdmitted) 53 (by decide +kernel)
theorem k_X8_196 : Cond.methodLink RX8 196 yX8_moebiuses ∈ zw_ts := zw_tp 1122 (by decide +kernel) rfl
theorem i_X8_moebiuses : Cond.instanceMethod yX8_moebiuses ∈ zw_ts := zw_tp 1124 (by decide +kernel) rfl
theorem s_X8_moebiuses : Cond.selects RX8 yX8_moebiuses yX8_moebiuses ∈ zw_ts := zw_sp (y := yX8_moebiuses) 54 (by decide +kernel)
theorem k_X8_201 : Cond.methodLink RX8 201 yX8_single ∈ zw_ts := zw_tp 1135 (by decide +kernel) rfl
theorem i_X8_single : Cond.instanceMethod yX8_single ∈ zw_ts := zw_tp 1137 (by decide +kernel) rfl
theorem s_X8_single : Cond.selects RX8 yX8_single yX8_single ∈ zw_ts := zw_sp (y := yX8_single) 56 (by decide +kernel)
theorem k_X8_204 : Cond.methodLink RX8 204 yX8_extendsAll ∈ zw_ts := zw_tp 1139 (by decide +kernel) rfl
theorem i_X8_extendsAll : Cond.instanceMethod yX8_extendsAll ∈ zw_ts := zw_tp 1141 (by decide +kernel) rfl
theorem s_X8_extendsAll : Cond.selects RX8 yX8_extendsAll yX8_extendsAll ∈ zw_ts := zw_sp (y := yX8_extendsAll) 57 (by decide +kernel)
theorem k_X8_207 : Cond.methodLink RX8 207 yX8_isBase ∈ zw_ts := zw_tp 1155 (by decide +kernel) rfl
theorem t_X8_isBase : Cond.static yX8_isBase ∈ zw_ts := zw_tp 1156 (by decide +kernel) rfl
theorem k_X8_210 : Cond.methodLink RX8 210 yX8_power ∈ zw_ts := zw_tp 1158 (by decide +kernel) rfl
theorem t_X8_power : Cond.static yX8_power ∈ zw_ts := zw_tp 1159 (by decide +kernel) rfl
theorem k_X8_214 : Cond.methodLink RX8 214 yX8_common ∈ zw_ts := zw_tp 1173 (by decide +kernel) rfl
theorem i_X8_common : Cond.instanceMethod yX8_common ∈ zw_ts := zw_tp 1175 (by decide +kernel) rfl
theorem s_X8_common : Cond.selects RX8 yX8_common yX8_common ∈ zw_ts := zw_sp (y := yX8_common) 59 (by decide +kernel)
theorem k_X8_218 : Cond.methodLink RX8 218 yX8_most ∈ zw_ts := zw_tp 1169 (by decide +kernel) rfl
theorem i_X8_most : Cond.instanceMethod yX8_most ∈ zw_ts := zw_tp 1171 (by decide +kernel) rfl
theorem s_X8_most : Cond.selects RX8 yX8_most yX8_most ∈ zw_ts := zw_sp (y := yX8_most) 58 (by decide +kernel)
theorem k_X8_221 : Cond.methodLink RX8 221 yX8_unlike ∈ zw_ts := zw_tp 1181 (by decide +kernel) rfl
theorem i_X8_unlike : Cond.instanceMethod yX8_unlike ∈ zw_ts := zw_tp 1183 (by decide +kernel) rfl
theorem s_X8_unlike : Cond.selects RX8 yX8_unlike yX8_unlike ∈ zw_ts := zw_sp (y := yX8_unlike) 60 (by decide +kernel)
theorem k_X8_224 : Cond.methodLink RX8 224 yX8_unlikeAll ∈ zw_ts := zw_tp 1189 (by decide +kernel) rfl
theorem i_X8_unlikeAll : Cond.instanceMethod yX8_unlikeAll ∈ zw_ts := zw_tp 1191 (by decide +kernel) rfl
theorem s_X8_unlikeAll : Cond.selects RX8 yX8_unlikeAll yX8_unlikeAll ∈ zw_ts := zw_sp (y := yX8_unlikeAll) 61 (by decide +kernel)
theorem k_X8_227 : Cond.methodLink RX8 227 yX8_full ∈ zw_ts := zw_tp 1201 (by decide +kernel) rfl
theorem i_X8_full : Cond.instanceMethod yX8_full ∈ zw_ts := zw_tp 1203 (by decide +kernel) rfl
theorem s_X8_full : Cond.selects RX8 yX8_full yX8_full ∈ zw_ts := zw_sp (y := yX8_full) 62 (by decide +kernel)
theorem k_X8_230 : Cond.methodLink RX8 230 yX8_bits ∈ zw_ts := zw_tp 1205 (by decide +kernel) rfl
theorem t_X8_bits : Cond.static yX8_bits ∈ zw_ts := zw_tp 1206 (by decide +kernel) rfl
theorem k_X8_237 : Cond.methodLink RX8 237 yX8_told ∈ zw_ts := zw_tp 1214 (by decide +kernel) rfl
theorem n_J6_265 : Cond.constant RJ6 265 (1431655765 : Int32) ∈ zw_ts := zw_tp 268 (by decide +kernel) rfl
theorem n_J6_266 : Cond.constant RJ6 266 (858993459 : Int32) ∈ zw_ts := zw_tp 269 (by decide +kernel) rfl
theorem n_J6_267 : Cond.constant RJ6 267 (252645135 : Int32) ∈ zw_ts := zw_tp 270 (by decide +kernel) rfl
theorem n_X7_176 : Cond.constant RX7 176 (1103515245 : Int32) ∈ zw_ts := zw_tp 510 (by decide +kernel) rfl
theorem n_X7_243 : Cond.constantLong RX7 243 (-1000000000 : Int64) ∈ zw_ts := zw_tp 624 (by decide +kernel) rfl
theorem n_X7_299 : Cond.constantLong RX7 299 (18446 : Int64) ∈ zw_ts := zw_tp 736 (by decide +kernel) rfl
theorem n_X7_301 : Cond.constantLong RX7 301 (31 : Int64) ∈ zw_ts := zw_tp 737 (by decide +kernel) rfl
theorem n_X7_312 : Cond.constantLong RX7 312 (-9 : Int64) ∈ zw_ts := zw_tp 741 (by decide +kernel) rfl
theorem n_X8_162 : Cond.constant RX8 162 (1103515245 : Int32) ∈ zw_ts := zw_tp 1020 (by decide +kernel) rfl
theorem n_X8_194 : Cond.constantLong RX8 194 (-1000000000 : Int64) ∈ zw_ts := zw_tp 1121 (by decide +kernel) rfl
theorem n_X8_199 : Cond.constantLong RX8 199 (-1 : Int64) ∈ zw_ts := zw_tp 1134 (by decide +kernel) rfl
theorem n_X8_233 : Cond.constantLong RX8 233 (18446 : Int64) ∈ zw_ts := zw_tp 1212 (by decide +kernel) rfl
theorem n_X8_235 : Cond.constantLong RX8 235 (31 : Int64) ∈ zw_ts := zw_tp 1213 (by decide +kernel) rfl
theorem n_X8_240 : Cond.constantLong RX8 240 (-9 : Int64) ∈ zw_ts := zw_tp 1215 (by decide +kernel) rfl
theorem g_X0_79 : Cond.fieldLink RX0 79 RX7 "GREATER" "[I" ∈ zw_ts ∨ Cond.fieldLinkNest RX0 79 RX7 "GREATER" "[I" RX7 ∈ zw_nest := Or.inr (zw_np 241 rfl (by decide +kernel))
theorem g_X0_82 : Cond.fieldLink RX0 82 RX7 "SMALLER" "[I" ∈ zw_ts ∨ Cond.fieldLinkNest RX0 82 RX7 "SMALLER" "[I" RX7 ∈ zw_nest := Or.inr (zw_np 243 rfl (by decide +kernel))
theorem g_X7_337 : Cond.fieldLink RX7 337 RX7 "SMALLER" "[I" ∈ zw_ts ∨ Cond.fieldLinkNest RX7 337 RX7 "SMALLER" "[I" RX7 ∈ zw_nest := Or.inl (zw_tp 457 (by decide +kernel) rfl)
theorem g_X7_340 : Cond.fieldLink RX7 340 RX7 "GREATER" "[I" ∈ zw_ts ∨ Cond.fieldLinkNest RX7 340 RX7 "GREATER" "[I" RX7 ∈ zw_nest := Or.inl (zw_tp 415 (by decide +kernel) rfl)
theorem w_obj1 : Cond.instanceMethod objectInit ∈ zw_ts := zw_tp 18 (by decide +kernel) rfl
theorem w_obj2 : Cond.code objectInit ⟨#[0xb1]⟩ 1 none ∈ zw_ts := zw_tp 19 (by decide +kernel) rfl
theorem w_arrI : Cond.arrayClass .int ∈ zw_ts := zw_tp 55 (by decide +kernel) rfl
theorem w_arrZ : Cond.arrayClass .boolean ∈ zw_ts := zw_tp 119 (by decide +kernel) rfl
theorem w_arrL : Cond.arrayClass .long ∈ zw_ts := zw_tp 215 (by decide +kernel) rfl
theorem c_X0_31 : Cond.classLink RX0 31 RX3 ∈ zw_ts := zw_tp 96 (by decide +kernel) rfl
theorem u_X3 : Cond.instantiable RX3 4 ∈ zw_ts ∧ Cond.initialized RX3 ∈ zw_ts := ⟨zw_tp 97 (by decide +kernel) rfl, zw_tp 6 (by decide +kernel) rfl⟩
theorem c_X1_9 : Cond.classLink RX1 9 RX5 ∈ zw_ts := zw_tp 62 (by decide +kernel) rfl
theorem u_X5 : Cond.instantiable RX5 7 ∈ zw_ts ∧ Cond.initialized RX5 ∈ zw_ts := ⟨zw_tp 21 (by decide +kernel) rfl, zw_tp 2 (by decide +kernel) rfl⟩
theorem c_X7_7 : Cond.classLink RX7 7 RX5 ∈ zw_ts := zw_tp 20 (by decide +kernel) rfl
theorem c_X7_16 : Cond.classLink RX7 16 RX1 ∈ zw_ts := zw_tp 56 (by decide +kernel) rfl
theorem u_X1 : Cond.instantiable RX1 3 ∈ zw_ts ∧ Cond.initialized RX1 ∈ zw_ts := ⟨zw_tp 57 (by decide +kernel) rfl, zw_tp 3 (by decide +kernel) rfl⟩
theorem c_X7_23 : Cond.classLink RX7 23 RX6 ∈ zw_ts := zw_tp 76 (by decide +kernel) rfl
theorem u_X6 : Cond.instantiable RX6 2 ∈ zw_ts ∧ Cond.initialized RX6 ∈ zw_ts := ⟨zw_tp 77 (by decide +kernel) rfl, zw_tp 4 (by decide +kernel) rfl⟩
theorem c_X7_30 : Cond.classLink RX7 30 RX0 ∈ zw_ts := zw_tp 90 (by decide +kernel) rfl
theorem u_X0 : Cond.instantiable RX0 9 ∈ zw_ts ∧ Cond.initialized RX0 ∈ zw_ts := ⟨zw_tp 91 (by decide +kernel) rfl, zw_tp 5 (by decide +kernel) rfl⟩
theorem c_X7_37 : Cond.classLink RX7 37 RX2 ∈ zw_ts := zw_tp 154 (by decide +kernel) rfl
theorem u_X2 : Cond.instantiable RX2 7 ∈ zw_ts ∧ Cond.initialized RX2 ∈ zw_ts := ⟨zw_tp 155 (by decide +kernel) rfl, zw_tp 7 (by decide +kernel) rfl⟩
theorem c_X7_44 : Cond.classLink RX7 44 RX4 ∈ zw_ts := zw_tp 190 (by decide +kernel) rfl
theorem u_X4 : Cond.instantiable RX4 5 ∈ zw_ts ∧ Cond.initialized RX4 ∈ zw_ts := ⟨zw_tp 191 (by decide +kernel) rfl, zw_tp 8 (by decide +kernel) rfl⟩
theorem c_X7_51 : Cond.classLink RX7 51 RX3 ∈ zw_ts := zw_tp 216 (by decide +kernel) rfl
theorem c_L_7 : Cond.classLink RL 7 RX7 ∈ zw_ts := zw_tp 12 (by decide +kernel) rfl
theorem u_X7 : Cond.instantiable RX7 10 ∈ zw_ts ∧ Cond.initialized RX7 ∈ zw_ts := ⟨zw_tp 13 (by decide +kernel) rfl, zw_tp 1 (by decide +kernel) rfl⟩
theorem c_L_10 : Cond.classLink RL 10 RX8 ∈ zw_ts := zw_tp 750 (by decide +kernel) rfl
theorem u_X8 : Cond.instantiable RX8 14 ∈ zw_ts ∧ Cond.initialized RX8 ∈ zw_ts := ⟨zw_tp 751 (by decide +kernel) rfl, zw_tp 11 (by decide +kernel) rfl⟩
