def zSK : zw_S := [.inl (7, [some (some 1), some (some 3), some (some 25), some (some 27), some (some 37), some (some 43), some (some 48), some (some 51), some (some 54), some (some 55)]), .inl (5, [some (some 2), none, none, none, none, none, none]), .inr (0, 8, fun _ => none), .inl (1, [some (some 4), none, none]), .inr (3, 10, zw_hist), .inl (5, [some (some 6), none, none, none, none, none, none]), .inr (0, 8, fun _ => none), .inl (5, [some (some 8), none, none, none, none, none, none]), .inr (0, 8, fun _ => none), .inl (5, [some (some 10), none, none, none, none, none, none]), .inr (0, 8, fun _ => none), .inl (5, [some (some 12), none, none, none, none, none, none]), .inr (0, 8, fun _ => none), .inl (5, [some (some 14), none, none, none, none, none, none]), .inr (0, 8, fun _ => none), .inl (5, [some (some 16), none, none, none, none, none, none]), .inr (0, 8, fun _ => none), .inl (5, [some (some 18), none, none, none, none, none, none]), .inr (0, 8, fun _ => none), .inl (5, [some (some 20), none, none, none, none, none, none]), .inr (0, 8, fun _ => none), .inl (5, [some (some 22), none, none, none, none, none, none]), .inr (0, 8, fun _ => none), .inl (5, [some (some 24), none, none, none, none, none, none]), .inr (0, 8, fun _ => none), .inl (6, [some (some 26), none]), .inr (0, 20, fun _ => none), .inl (0, [some (some 28), some (some 29), some (some 30), some (some 31), some (some 32), some (some 33), some (some 34), none, none]), .inr (0, 203, fun _ => none), .inr (0, 203, fun _ => none), .inr (0, 203, fun _ => none), .inr (0, 203, fun _ => none), .inr (1, 203, fun _ => none), .inr (0, 6, fun _ => none), .inl (3, [some (some 35), some (some 36), none, none]), .inr (0, 6, fun _ => none), .inr (0, 6, fun _ => none), .inl (2, [some (some 38), some (some 39), some (some 40), some (some 41), some (some 42), none, none]), .inr (0, 203, fun _ => none), .inr (0, 203, fun _ => none), .inr (0, 203, fun _ => none), .inr (0, 7, fun _ => none), .inr (0, 203, fun _ => none), .inl (4, [some (some 44), some (some 45), some (some 46), some (some 47), none]), .inr (0, 203, fun _ => none), .inr (0, 203, fun _ => none), .inr (2, 203, fun _ => none), .inr (0, 203, fun _ => none), .inl (3, [some (some 49), some (some 50), none, none]), .inr (0, 6, fun _ => none), .inr (0, 6, fun _ => none), .inl (3, [some (some 52), some (some 53), none, none]), .inr (0, 6, fun _ => none), .inr (0, 6, fun _ => none), .inr (0, 6, fun _ => none), .inr (0, 64, fun _ => none)]
theorem zk_0 : zSK[0]? = some (.inl (7, [some (some 1), some (some 3), some (some 25), some (some 27), some (some 37), some (some 43), some (some 48), some (some 51), some (some 54), some (some 55)])) := rfl
theorem zk_1 : zSK[1]? = some (.inl (5, [some (some 2), none, none, none, none, none, none])) := rfl
theorem zk_2 : zSK[2]? = some (.inr (0, 8, fun _ => none)) := rfl
theorem zk_3 : zSK[3]? = some (.inl (1, [some (some 4), none, none])) := rfl
theorem zk_4 : zSK[4]? = some (.inr (3, 10, zw_hist)) := rfl
theorem zk_5 : zSK[5]? = some (.inl (5, [some (some 6), none, none, none, none, none, none])) := rfl
theorem zk_6 : zSK[6]? = some (.inr (0, 8, fun _ => none)) := rfl
theorem zk_7 : zSK[7]? = some (.inl (5, [some (some 8), none, none, none, none, none, none])) := rfl
theorem zk_8 : zSK[8]? = some (.inr (0, 8, fun _ => none)) := rfl
theorem zk_9 : zSK[9]? = some (.inl (5, [some (some 10), none, none, none, none, none, none])) := rfl
theorem zk_10 : zSK[10]? = some (.inr (0, 8, fun _ => none)) := rfl
theorem zk_11 : zSK[11]? = some (.inl (5, [some (some 12), none, none, none, none, none, none])) := rfl
theorem zk_12 : zSK[12]? = some (.inr (0, 8, fun _ => none)) := rfl
theorem zk_13 : zSK[13]? = some (.inl (5, [some (some 14), none, none, none, none, none, none])) := rfl
theorem zk_14 : zSK[14]? = some (.inr (0, 8, fun _ => none)) := rfl
theorem zk_15 : zSK[15]? = some (.inl (5, [some (some 16), none, none, none, none, none, none])) := rfl
theorem zk_16 : zSK[16]? = some (.inr (0, 8, fun _ => none)) := rfl
theorem zk_17 : zSK[17]? = some (.inl (5, [some (some 18), none, none, none, none, none, none])) := rfl
theorem zk_18 : zSK[18]? = some (.inr (0, 8, fun _ => none)) := rfl
theorem zk_19 : zSK[19]? = some (.inl (5, [some (some 20), none, none, none, none, none, none])) := rfl
theorem zk_20 : zSK[20]? = some (.inr (0, 8, fun _ => none)) := rfl
theorem zk_21 : zSK[21]? = some (.inl (5, [some (some 22), none, none, none, none, none, none])) := rfl
theorem zk_22 : zSK[22]? = some (.inr (0, 8, fun _ => none)) := rfl
theorem zk_23 : zSK[23]? = some (.inl (5, [some (some 24), none, none, none, none, none, none])) := rfl
theorem zk_24 : zSK[24]? = some (.inr (0, 8, fun _ => none)) := rfl
theorem zk_25 : zSK[25]? = some (.inl (6, [some (some 26), none])) := rfl
theorem zk_26 : zSK[26]? = some (.inr (0, 20, fun _ => none)) := rfl
theorem zk_27 : zSK[27]? = some (.inl (0, [some (some 28), some (some 29), some (some 30), some (some 31), some (some 32), some (some 33), some (some 34), none, none])) := rfl
theorem zk_28 : zSK[28]? = some (.inr (0, 203, fun _ => none)) := rfl
theorem zk_29 : zSK[29]? = some (.inr (0, 203, fun _ => none)) := rfl
theorem zk_30 : zSK[30]? = some (.inr (0, 203, fun _ => none)) := rfl
theorem zk_31 : zSK[31]? = some (.inr (0, 203, fun _ => none)) := rfl
theorem zk_32 : zSK[32]? = some (.inr (1, 203, fun _ => none)) := rfl
theorem zk_33 : zSK[33]? = some (.inr (0, 6, fun _ => none)) := rfl
theorem zk_34 : zSK[34]? = some (.inl (3, [some (some 35), some (some 36), none, none])) := rfl
theorem zk_35 : zSK[35]? = some (.inr (0, 6, fun _ => none)) := rfl
theorem zk_36 : zSK[36]? = some (.inr (0, 6, fun _ => none)) := rfl
theorem zk_37 : zSK[37]? = some (.inl (2, [some (some 38), some (some 39), some (some 40), some (some 41), some (some 42), none, none])) := rfl
theorem zk_38 : zSK[38]? = some (.inr (0, 203, fun _ => none)) := rfl
theorem zk_39 : zSK[39]? = some (.inr (0, 203, fun _ => none)) := rfl
theorem zk_40 : zSK[40]? = some (.inr (0, 203, fun _ => none)) := rfl
theorem zk_41 : zSK[41]? = some (.inr (0, 7, fun _ => none)) := rfl
theorem zk_42 : zSK[42]? = some (.inr (0, 203, fun _ => none)) := rfl
theorem zk_43 : zSK[43]? = some (.inl (4, [some (some 44), some (some 45), some (some 46), some (some 47), none])) := rfl
theorem zk_44 : zSK[44]? = some (.inr (0, 203, fun _ => none)) := rfl
theorem zk_45 : zSK[45]? = some (.inr (0, 203, fun _ => none)) := rfl
theorem zk_46 : zSK[46]? = some (.inr (2, 203, fun _ => none)) := rfl
theorem zk_47 : zSK[47]? = some (.inr (0, 203, fun _ => none)) := rfl
theorem zk_48 : zSK[48]? = some (.inl (3, [some (some 49), some (some 50), none, none])) := rfl
theorem zk_49 : zSK[49]? = some (.inr (0, 6, fun _ => none)) := rfl
theorem zk_50 : zSK[50]? = some (.inr (0, 6, fun _ => none)) := rfl
theorem zk_51 : zSK[51]? = some (.inl (3, [some (some 52), some (some 53), none, none])) := rfl
theorem zk_52 : zSK[52]? = some (.inr (0, 6, fun _ => none)) := rfl
theorem zk_53 : zSK[53]? = some (.inr (0, 6, fun _ => none)) := rfl
theorem zk_54 : zSK[54]? = some (.inr (0, 6, fun _ => none)) := rfl
theorem zk_55 : zSK[55]? = some (.inr (0, 64, fun _ => none)) := rfl
abbrev kcI (d : Nat) (M : zw_M) (as : List Value) (h : zw_H) (q : Int32 → zw_H → Prop) : Prop := zc d 0 0 M as zSK h (zw_qI q zSK)
abbrev kcL (d : Nat) (M : zw_M) (as : List Value) (h : zw_H) (q : Int64 → zw_H → Prop) : Prop := zc d 0 0 M as zSK h (zw_qL q zSK)
abbrev kcV (d : Nat) (M : zw_M) (as : List Value) (h : zw_H) (q : zw_H → Prop) : Prop := zc d 0 0 M as zSK h (zw_qV q zSK)
abbrev kwI (d : Nat) (M : zw_M) (q : Int32 → zw_H → Prop) (pc : Nat) (lv : List (Nat × Value)) (st : List Value) (h : zw_H) : Prop := zw M d 0 0 (zw_qI q zSK) pc lv st zSK h 0 0
abbrev kwL (d : Nat) (M : zw_M) (q : Int64 → zw_H → Prop) (pc : Nat) (lv : List (Nat × Value)) (st : List Value) (h : zw_H) : Prop := zw M d 0 0 (zw_qL q zSK) pc lv st zSK h 0 0
abbrev kwV (d : Nat) (M : zw_M) (q : zw_H → Prop) (pc : Nat) (lv : List (Nat × Value)) (st : List Value) (h : zw_H) : Prop := zw M d 0 0 (zw_qV q zSK) pc lv st zSK h 0 0
abbrev kpI (d : Nat) (M : zw_M) (as : List Value) (h : zw_H) (F : Int32) : Prop := kcI d M as h (fun x h' => x = F ∧ h' = h)
theorem ka {d : Nat} {M : zw_M} {as : List Value} {h : zw_H} {F : Int32} {P : Int32 → zw_H → Prop} (ct : kpI d M as h F) (k : P F h) : ∃ q : Int32 → zw_H → Prop, kcI d M as h q ∧ ∀ (x : Int32) (h1 : zw_H), q x h1 → P x h1 := ⟨_, ct, fun _ _ e => by rw [e.1, e.2]; exact k⟩
theorem kcI_of {d : Nat} {M : zw_M} {as : List Value} {h : zw_H} {q : Int32 → zw_H → Prop} (hX : M.2.2.2.2.1 = 0) (hp : plainName M.1.cls = true) (hl : ∀ g : zw_G, (lg_sl (as.map (zw_tr g))).length ≤ M.2.2.1) {lv : List (Nat × Value)} (hlv : lv_args 0 as = lv) (k : kwI d M q 0 lv [] h) : kcI d M as h q := by
  subst hlv
  exact zc_of hX hp hl k
theorem kcV_of {d : Nat} {M : zw_M} {as : List Value} {h : zw_H} {q : zw_H → Prop} (hX : M.2.2.2.2.1 = 0) (hp : plainName M.1.cls = true) (hl : ∀ g : zw_G, (lg_sl (as.map (zw_tr g))).length ≤ M.2.2.1) {lv : List (Nat × Value)} (hlv : lv_args 0 as = lv) (k : kwV d M q 0 lv [] h) : kcV d M as h q := by
  subst hlv
  exact zc_of hX hp hl k
theorem kaV {d : Nat} {M : zw_M} {as : List Value} {h : zw_H} {R P : zw_H → Prop} (ct : kcV d M as h R) (k : ∀ h1, R h1 → P h1) : ∃ q : zw_H → Prop, kcV d M as h q ∧ ∀ h1 : zw_H, q h1 → P h1 := ⟨_, ct, k⟩
theorem kr {d : Nat} {M : zw_M} {as : List Value} {h : zw_H} {R P : Int32 → zw_H → Prop} (ct : kcI d M as h R) (k : ∀ x h1, R x h1 → P x h1) : ∃ q : Int32 → zw_H → Prop, kcI d M as h q ∧ ∀ (x : Int32) (h1 : zw_H), q x h1 → P x h1 := ⟨_, ct, k⟩
theorem qJ6_bitCount_0f7a4_0 {q : Int32 → zw_H → Prop} {h : zw_H} {v0 : Int32} (K : q ((((((((v0 - (((Int32.toUInt32 v0 >>> (Int32.toUInt32 (1 : Int32) &&& Int32.toUInt32 31)).toInt32) &&& (1431655765 : Int32))) &&& (858993459 : Int32)) + (((Int32.toUInt32 (v0 - (((Int32.toUInt32 v0 >>> (Int32.toUInt32 (1 : Int32) &&& Int32.toUInt32 31)).toInt32) &&& (1431655765 : Int32))) >>> (Int32.toUInt32 (2 : Int32) &&& Int32.toUInt32 31)).toInt32) &&& (858993459 : Int32))) + ((Int32.toUInt32 (((v0 - (((Int32.toUInt32 v0 >>> (Int32.toUInt32 (1 : Int32) &&& Int32.toUInt32 31)).toInt32) &&& (1431655765 : Int32))) &&& (858993459 : Int32)) + (((Int32.toUInt32 (v0 - (((Int32.toUInt32 v0 >>> (Int32.toUInt32 (1 : Int32) &&& Int32.toUInt32 31)).toInt32) &&& (1431655765 : Int32))) >>> (Int32.toUInt32 (2 : Int32) &&& Int32.toUInt32 31)).toInt32) &&& (858993459 : Int32))) >>> (Int32.toUInt32 (4 : Int32) &&& Int32.toUInt32 31)).toInt32)) &&& (252645135 : Int32)) + ((Int32.toUInt32 (((((v0 - (((Int32.toUInt32 v0 >>> (Int32.toUInt32 (1 : Int32) &&& Int32.toUInt32 31)).toInt32) &&& (1431655765 : Int32))) &&& (858993459 : Int32)) + (((Int32.toUInt32 (v0 - (((Int32.toUInt32 v0 >>> (Int32.toUInt32 (1 : Int32) &&& Int32.toUInt32 31)).toInt32) &&& (1431655765 : Int32))) >>> (Int32.toUInt32 (2 : Int32) &&& Int32.toUInt32 31)).toInt32) &&& (858993459 : Int32))) + ((Int32.toUInt32 (((v0 - (((Int32.toUInt32 v0 >>> (Int32.toUInt32 (1 : Int32) &&& Int32.toUInt32 31)).toInt32) &&& (1431655765 : Int32))) &&& (858993459 : Int32)) + (((Int32.toUInt32 (v0 - (((Int32.toUInt32 v0 >>> (Int32.toUInt32 (1 : Int32) &&& Int32.toUInt32 31)).toInt32) &&& (1431655765 : Int32))) >>> (Int32.toUInt32 (2 : Int32) &&& Int32.toUInt32 31)).toInt32) &&& (858993459 : Int32))) >>> (Int32.toUInt32 (4 : Int32) &&& Int32.toUInt32 31)).toInt32)) &&& (252645135 : Int32)) >>> (Int32.toUInt32 (8 : Int32) &&& Int32.toUInt32 31)).toInt32)) + ((Int32.toUInt32 ((((((v0 - (((Int32.toUInt32 v0 >>> (Int32.toUInt32 (1 : Int32) &&& Int32.toUInt32 31)).toInt32) &&& (1431655765 : Int32))) &&& (858993459 : Int32)) + (((Int32.toUInt32 (v0 - (((Int32.toUInt32 v0 >>> (Int32.toUInt32 (1 : Int32) &&& Int32.toUInt32 31)).toInt32) &&& (1431655765 : Int32))) >>> (Int32.toUInt32 (2 : Int32) &&& Int32.toUInt32 31)).toInt32) &&& (858993459 : Int32))) + ((Int32.toUInt32 (((v0 - (((Int32.toUInt32 v0 >>> (Int32.toUInt32 (1 : Int32) &&& Int32.toUInt32 31)).toInt32) &&& (1431655765 : Int32))) &&& (858993459 : Int32)) + (((Int32.toUInt32 (v0 - (((Int32.toUInt32 v0 >>> (Int32.toUInt32 (1 : Int32) &&& Int32.toUInt32 31)).toInt32) &&& (1431655765 : Int32))) >>> (Int32.toUInt32 (2 : Int32) &&& Int32.toUInt32 31)).toInt32) &&& (858993459 : Int32))) >>> (Int32.toUInt32 (4 : Int32) &&& Int32.toUInt32 31)).toInt32)) &&& (252645135 : Int32)) + ((Int32.toUInt32 (((((v0 - (((Int32.toUInt32 v0 >>> (Int32.toUInt32 (1 : Int32) &&& Int32.toUInt32 31)).toInt32) &&& (1431655765 : Int32))) &&& (858993459 : Int32)) + (((Int32.toUInt32 (v0 - (((Int32.toUInt32 v0 >>> (Int32.toUInt32 (1 : Int32) &&& Int32.toUInt32 31)).toInt32) &&& (1431655765 : Int32))) >>> (Int32.toUInt32 (2 : Int32) &&& Int32.toUInt32 31)).toInt32) &&& (858993459 : Int32))) + ((Int32.toUInt32 (((v0 - (((Int32.toUInt32 v0 >>> (Int32.toUInt32 (1 : Int32) &&& Int32.toUInt32 31)).toInt32) &&& (1431655765 : Int32))) &&& (858993459 : Int32)) + (((Int32.toUInt32 (v0 - (((Int32.toUInt32 v0 >>> (Int32.toUInt32 (1 : Int32) &&& Int32.toUInt32 31)).toInt32) &&& (1431655765 : Int32))) >>> (Int32.toUInt32 (2 : Int32) &&& Int32.toUInt32 31)).toInt32) &&& (858993459 : Int32))) >>> (Int32.toUInt32 (4 : Int32) &&& Int32.toUInt32 31)).toInt32)) &&& (252645135 : Int32)) >>> (Int32.toUInt32 (8 : Int32) &&& Int32.toUInt32 31)).toInt32)) >>> (Int32.toUInt32 (16 : Int32) &&& Int32.toUInt32 31)).toInt32)) &&& (63 : Int32)) h) : kwI 0 mJ6_bitCount_0f7a4 q 0 [(0, .int v0)] [] h := by
  refine zw_iload_n 0 dJ6_bitCount_0f7a4_0 rfl rfl rfl ?_
  refine zw_iload_n 0 dJ6_bitCount_0f7a4_1 rfl rfl rfl ?_
  refine zw_iconst (v := (1 : Int32)) dJ6_bitCount_0f7a4_2 (by decide) rfl ?_
  refine zw_iushr dJ6_bitCount_0f7a4_3 rfl ?_
  refine zw_ldc_w n_J6_265 dJ6_bitCount_0f7a4_4 rfl ?_
  refine zw_iand dJ6_bitCount_0f7a4_7 rfl ?_
  refine zw_isub dJ6_bitCount_0f7a4_8 rfl ?_
  refine zw_istore_n dJ6_bitCount_0f7a4_9 rfl (by decide) rfl rfl ?_
  refine zw_iload_n 0 dJ6_bitCount_0f7a4_10 rfl rfl rfl ?_
  refine zw_ldc_w n_J6_266 dJ6_bitCount_0f7a4_11 rfl ?_
  refine zw_iand dJ6_bitCount_0f7a4_14 rfl ?_
  refine zw_iload_n 0 dJ6_bitCount_0f7a4_15 rfl rfl rfl ?_
  refine zw_iconst (v := (2 : Int32)) dJ6_bitCount_0f7a4_16 (by decide) rfl ?_
  refine zw_iushr dJ6_bitCount_0f7a4_17 rfl ?_
  refine zw_ldc_w n_J6_266 dJ6_bitCount_0f7a4_18 rfl ?_
  refine zw_iand dJ6_bitCount_0f7a4_21 rfl ?_
  refine zw_iadd dJ6_bitCount_0f7a4_22 rfl ?_
  refine zw_istore_n dJ6_bitCount_0f7a4_23 rfl (by decide) rfl rfl ?_
  refine zw_iload_n 0 dJ6_bitCount_0f7a4_24 rfl rfl rfl ?_
  refine zw_iload_n 0 dJ6_bitCount_0f7a4_25 rfl rfl rfl ?_
  refine zw_iconst (v := (4 : Int32)) dJ6_bitCount_0f7a4_26 (by decide) rfl ?_
  refine zw_iushr dJ6_bitCount_0f7a4_27 rfl ?_
  refine zw_iadd dJ6_bitCount_0f7a4_28 rfl ?_
  refine zw_ldc_w n_J6_267 dJ6_bitCount_0f7a4_29 rfl ?_
  refine zw_iand dJ6_bitCount_0f7a4_32 rfl ?_
  refine zw_istore_n dJ6_bitCount_0f7a4_33 rfl (by decide) rfl rfl ?_
  refine zw_iload_n 0 dJ6_bitCount_0f7a4_34 rfl rfl rfl ?_
  refine zw_iload_n 0 dJ6_bitCount_0f7a4_35 rfl rfl rfl ?_
  refine zw_bipush (v := (8 : Int32)) dJ6_bitCount_0f7a4_36 (by decide) rfl ?_
  refine zw_iushr dJ6_bitCount_0f7a4_38 rfl ?_
  refine zw_iadd dJ6_bitCount_0f7a4_39 rfl ?_
  refine zw_istore_n dJ6_bitCount_0f7a4_40 rfl (by decide) rfl rfl ?_
  refine zw_iload_n 0 dJ6_bitCount_0f7a4_41 rfl rfl rfl ?_
  refine zw_iload_n 0 dJ6_bitCount_0f7a4_42 rfl rfl rfl ?_
  refine zw_bipush (v := (16 : Int32)) dJ6_bitCount_0f7a4_43 (by decide) rfl ?_
  refine zw_iushr dJ6_bitCount_0f7a4_45 rfl ?_
  refine zw_iadd dJ6_bitCount_0f7a4_46 rfl ?_
  refine zw_istore_n dJ6_bitCount_0f7a4_47 rfl (by decide) rfl rfl ?_
  refine zw_iload_n 0 dJ6_bitCount_0f7a4_48 rfl rfl rfl ?_
  refine zw_bipush (v := (63 : Int32)) dJ6_bitCount_0f7a4_49 (by decide) rfl ?_
  refine zw_iand dJ6_bitCount_0f7a4_51 rfl ?_
  exact zw_ireturn (ty := .int) dJ6_bitCount_0f7a4_52 rfl rfl (Nat.le_refl 0) (Nat.le_refl 0) ⟨_, rfl, rfl, K⟩
theorem qX7_pairBit_0 {q : Int32 → zw_H → Prop} {h : zw_H} {v0 v1 : Int32} (K : ((¬ v0 = v1 → ((v1 ≤ v0 → ((v1 ≤ v0 → q ((1 : Int32) <<< ((((((v1 * ((11 : Int32) - v1)) / (2 : Int32)) + v0) - v1) - (1 : Int32)) &&& 31)) h) ∧ (¬ v1 ≤ v0 → q ((1 : Int32) <<< ((((((v1 * ((11 : Int32) - v1)) / (2 : Int32)) + v1) - v1) - (1 : Int32)) &&& 31)) h))) ∧ (¬ v1 ≤ v0 → ((v1 ≤ v0 → q ((1 : Int32) <<< ((((((v0 * ((11 : Int32) - v0)) / (2 : Int32)) + v0) - v0) - (1 : Int32)) &&& 31)) h) ∧ (¬ v1 ≤ v0 → q ((1 : Int32) <<< ((((((v0 * ((11 : Int32) - v0)) / (2 : Int32)) + v1) - v0) - (1 : Int32)) &&& 31)) h))))) ∧ (v0 = v1 → q (0 : Int32) h))) : kwI 0 mX7_pairBit q 0 [(0, .int v0), (1, .int v1)] [] h := by
  refine zw_iload_n 0 dX7_pairBit_0 rfl rfl rfl ?_
  refine zw_iload_n 1 dX7_pairBit_1 rfl rfl rfl ?_
  refine zw_icmp_ne (tg := 7) dX7_pairBit_2 (by decide) rfl (fun c => ?_) (fun c => ?_)
  · have K := K.1 c
    refine zw_iload_n 0 dX7_pairBit_7 rfl rfl rfl ?_
    refine zw_iload_n 1 dX7_pairBit_8 rfl rfl rfl ?_
    refine zw_icmp_ge (tg := 16) dX7_pairBit_9 (by decide) rfl (fun c => ?_) (fun c => ?_)
    · have K := K.1 c
      refine zw_iload_n 1 dX7_pairBit_16 rfl rfl rfl ?_
      refine zw_istore_n dX7_pairBit_17 rfl (by decide) rfl rfl ?_
      refine zw_iload_n 1 dX7_pairBit_18 rfl rfl rfl ?_
      refine zw_iload_n 2 dX7_pairBit_19 rfl rfl rfl ?_
      refine zw_icmp_ge (tg := 27) dX7_pairBit_20 (by decide) rfl (fun c => ?_) (fun c => ?_)
      · have K := K.1 c
        refine zw_iload_n 1 dX7_pairBit_27 rfl rfl rfl ?_
        refine zw_istore_n dX7_pairBit_28 rfl (by decide) rfl rfl ?_
        refine zw_iconst (v := (1 : Int32)) dX7_pairBit_29 (by decide) rfl ?_
        refine zw_iload_n 1 dX7_pairBit_30 rfl rfl rfl ?_
        refine zw_bipush (v := (11 : Int32)) dX7_pairBit_31 (by decide) rfl ?_
        refine zw_iload_n 1 dX7_pairBit_33 rfl rfl rfl ?_
        refine zw_isub dX7_pairBit_34 rfl ?_
        refine zw_imul dX7_pairBit_35 rfl ?_
        refine zw_iconst (v := (2 : Int32)) dX7_pairBit_36 (by decide) rfl ?_
        refine zw_idiv dX7_pairBit_37 (by decide) rfl ?_
        refine zw_iload_n 0 dX7_pairBit_38 rfl rfl rfl ?_
        refine zw_iadd dX7_pairBit_39 rfl ?_
        refine zw_iload_n 1 dX7_pairBit_40 rfl rfl rfl ?_
        refine zw_isub dX7_pairBit_41 rfl ?_
        refine zw_iconst (v := (1 : Int32)) dX7_pairBit_42 (by decide) rfl ?_
        refine zw_isub dX7_pairBit_43 rfl ?_
        refine zw_ishl dX7_pairBit_44 rfl ?_
        exact zw_ireturn (ty := .int) dX7_pairBit_45 rfl rfl (Nat.le_refl 0) (Nat.le_refl 0) ⟨_, rfl, rfl, K⟩
      · have K := K.2 c
        refine zw_iload_n 2 dX7_pairBit_23 rfl rfl rfl ?_
        refine zw_goto (np := 28) dX7_pairBit_24 (by decide) ?_
        refine zw_istore_n dX7_pairBit_28 rfl (by decide) rfl rfl ?_
        refine zw_iconst (v := (1 : Int32)) dX7_pairBit_29 (by decide) rfl ?_
        refine zw_iload_n 1 dX7_pairBit_30 rfl rfl rfl ?_
        refine zw_bipush (v := (11 : Int32)) dX7_pairBit_31 (by decide) rfl ?_
        refine zw_iload_n 1 dX7_pairBit_33 rfl rfl rfl ?_
        refine zw_isub dX7_pairBit_34 rfl ?_
        refine zw_imul dX7_pairBit_35 rfl ?_
        refine zw_iconst (v := (2 : Int32)) dX7_pairBit_36 (by decide) rfl ?_
        refine zw_idiv dX7_pairBit_37 (by decide) rfl ?_
        refine zw_iload_n 0 dX7_pairBit_38 rfl rfl rfl ?_
        refine zw_iadd dX7_pairBit_39 rfl ?_
        refine zw_iload_n 1 dX7_pairBit_40 rfl rfl rfl ?_
        refine zw_isub dX7_pairBit_41 rfl ?_
        refine zw_iconst (v := (1 : Int32)) dX7_pairBit_42 (by decide) rfl ?_
        refine zw_isub dX7_pairBit_43 rfl ?_
        refine zw_ishl dX7_pairBit_44 rfl ?_
        exact zw_ireturn (ty := .int) dX7_pairBit_45 rfl rfl (Nat.le_refl 0) (Nat.le_refl 0) ⟨_, rfl, rfl, K⟩
    · have K := K.2 c
      refine zw_iload_n 0 dX7_pairBit_12 rfl rfl rfl ?_
      refine zw_goto (np := 17) dX7_pairBit_13 (by decide) ?_
      refine zw_istore_n dX7_pairBit_17 rfl (by decide) rfl rfl ?_
      refine zw_iload_n 1 dX7_pairBit_18 rfl rfl rfl ?_
      refine zw_iload_n 2 dX7_pairBit_19 rfl rfl rfl ?_
      refine zw_icmp_ge (tg := 27) dX7_pairBit_20 (by decide) rfl (fun c => ?_) (fun c => ?_)
      · have K := K.1 c
        refine zw_iload_n 1 dX7_pairBit_27 rfl rfl rfl ?_
        refine zw_istore_n dX7_pairBit_28 rfl (by decide) rfl rfl ?_
        refine zw_iconst (v := (1 : Int32)) dX7_pairBit_29 (by decide) rfl ?_
        refine zw_iload_n 1 dX7_pairBit_30 rfl rfl rfl ?_
        refine zw_bipush (v := (11 : Int32)) dX7_pairBit_31 (by decide) rfl ?_
        refine zw_iload_n 1 dX7_pairBit_33 rfl rfl rfl ?_
        refine zw_isub dX7_pairBit_34 rfl ?_
        refine zw_imul dX7_pairBit_35 rfl ?_
        refine zw_iconst (v := (2 : Int32)) dX7_pairBit_36 (by decide) rfl ?_
        refine zw_idiv dX7_pairBit_37 (by decide) rfl ?_
        refine zw_iload_n 0 dX7_pairBit_38 rfl rfl rfl ?_
        refine zw_iadd dX7_pairBit_39 rfl ?_
        refine zw_iload_n 1 dX7_pairBit_40 rfl rfl rfl ?_
        refine zw_isub dX7_pairBit_41 rfl ?_
        refine zw_iconst (v := (1 : Int32)) dX7_pairBit_42 (by decide) rfl ?_
        refine zw_isub dX7_pairBit_43 rfl ?_
        refine zw_ishl dX7_pairBit_44 rfl ?_
        exact zw_ireturn (ty := .int) dX7_pairBit_45 rfl rfl (Nat.le_refl 0) (Nat.le_refl 0) ⟨_, rfl, rfl, K⟩
      · have K := K.2 c
        refine zw_iload_n 2 dX7_pairBit_23 rfl rfl rfl ?_
        refine zw_goto (np := 28) dX7_pairBit_24 (by decide) ?_
        refine zw_istore_n dX7_pairBit_28 rfl (by decide) rfl rfl ?_
        refine zw_iconst (v := (1 : Int32)) dX7_pairBit_29 (by decide) rfl ?_
        refine zw_iload_n 1 dX7_pairBit_30 rfl rfl rfl ?_
        refine zw_bipush (v := (11 : Int32)) dX7_pairBit_31 (by decide) rfl ?_
        refine zw_iload_n 1 dX7_pairBit_33 rfl rfl rfl ?_
        refine zw_isub dX7_pairBit_34 rfl ?_
        refine zw_imul dX7_pairBit_35 rfl ?_
        refine zw_iconst (v := (2 : Int32)) dX7_pairBit_36 (by decide) rfl ?_
        refine zw_idiv dX7_pairBit_37 (by decide) rfl ?_
        refine zw_iload_n 0 dX7_pairBit_38 rfl rfl rfl ?_
        refine zw_iadd dX7_pairBit_39 rfl ?_
        refine zw_iload_n 1 dX7_pairBit_40 rfl rfl rfl ?_
        refine zw_isub dX7_pairBit_41 rfl ?_
        refine zw_iconst (v := (1 : Int32)) dX7_pairBit_42 (by decide) rfl ?_
        refine zw_isub dX7_pairBit_43 rfl ?_
        refine zw_ishl dX7_pairBit_44 rfl ?_
        exact zw_ireturn (ty := .int) dX7_pairBit_45 rfl rfl (Nat.le_refl 0) (Nat.le_refl 0) ⟨_, rfl, rfl, K⟩
  · have K := K.2 c
    refine zw_iconst (v := (0 : Int32)) dX7_pairBit_5 (by decide) rfl ?_
    exact zw_ireturn (ty := .int) dX7_pairBit_6 rfl rfl (Nat.le_refl 0) (Nat.le_refl 0) ⟨_, rfl, rfl, K⟩

set_option maxRecDepth 100000 in
set_option maxHeartbeats 4000000 in
theorem qX3_labelOfPartner_0 {q : Int32 → zw_H → Prop} {h : zw_H} {o la ma : Nat} {v1 v2 : Int32} (ho : zSK[o]? = some (.inl (3, [some (some la), some (some ma), none, none]))) (hla : zSK[la]? = some (.inr (0, 6, fun _ => none))) (hma : zSK[ma]? = some (.inr (0, 6, fun _ => none))) (K : kwI 1 mX3_labelOfPartner q 2 [(0, .ref o), (1, .int v1), (2, .int v2), (3, .int (0 : Int32))] [] h) : kwI 1 mX3_labelOfPartner q 0 [(0, .ref o), (1, .int v1), (2, .int v2)] [] h := by
  refine zw_iconst (v := (0 : Int32)) dX3_labelOfPartner_0 (by decide) rfl ?_
  refine zw_istore_n dX3_labelOfPartner_1 rfl (by decide) rfl rfl ?_
  exact zw.sub [1, 2, 3, 0] rfl K

set_option maxRecDepth 100000 in
set_option maxHeartbeats 4000000 in
theorem qX3_labelOfPartner_2 {q : Int32 → zw_H → Prop} {h : zw_H} {o la ma : Nat} {v1 v2 v3 : Int32} (ho : zSK[o]? = some (.inl (3, [some (some la), some (some ma), none, none]))) (hla : zSK[la]? = some (.inr (0, 6, fun _ => none))) (hma : zSK[ma]? = some (.inr (0, 6, fun _ => none))) (K : ((v2 ≤ v3 → q (h.1 o 3) h) ∧ (¬ v2 ≤ v3 → (∃ q1 : Int32 → zw_H → Prop, kcI 0 mX7_pairBit [.int v3, .int v2] h q1 ∧ (∀ (x1 : Int32) (h1 : zw_H), q1 x1 h1 → (((v1 &&& x1) = 0 → kwI 1 mX3_labelOfPartner q 2 [(0, .ref o), (1, .int v1), (2, .int v2), (3, .int (v3 + (1 : Int32)))] [] h1) ∧ (¬ (v1 &&& x1) = 0 → (∃ j2 : Nat, v3 = nI j2 ∧ j2 < 6 ∧ q (h1.1 la j2) h1)))))))) : kwI 1 mX3_labelOfPartner q 2 [(0, .ref o), (1, .int v1), (2, .int v2), (3, .int v3)] [] h := by
  refine zw_iload_n 3 dX3_labelOfPartner_2 rfl rfl rfl ?_
  refine zw_iload_n 2 dX3_labelOfPartner_3 rfl rfl rfl ?_
  refine zw_icmp_ge (tg := 30) dX3_labelOfPartner_4 (by decide) rfl (fun c => ?_) (fun c => ?_)
  · have K := K.1 c
    refine zw_aload_n 0 dX3_labelOfPartner_30 rfl rfl rfl ?_
    refine zw_getI f_X3_28 dX3_labelOfPartner_31 ho rfl rfl ?_
    exact zw_ireturn (ty := .int) dX3_labelOfPartner_34 rfl rfl (Nat.le_refl 0) (Nat.le_refl 0) ⟨_, rfl, rfl, K⟩
  · have K := K.2 c
    refine zw_iload_n 1 dX3_labelOfPartner_7 rfl rfl rfl ?_
    refine zw_iload_n 3 dX3_labelOfPartner_8 rfl rfl rfl ?_
    refine zw_iload_n 2 dX3_labelOfPartner_9 rfl rfl rfl ?_
    obtain ⟨q1, ct, K⟩ := K
    refine zw_callSN (n := 2) (As := [.int v3, .int v2]) (rest := [.int v1]) ct my_X7_pairBit rfl rfl k_X3_34 t_X7_pairBit dX3_labelOfPartner_10 (by decide) (Nat.le_of_ble_eq_true rfl) (Nat.le_refl 0) (Nat.le_refl 0) rfl (fun r s1 h1 hq => ?_)
    obtain ⟨x1, rfl, rfl, hq⟩ := hq
    have K := K x1 h1 hq
    refine zw.st (st' := [.int x1, .int v1]) rfl ?_
    refine zw_iand dX3_labelOfPartner_13 rfl ?_
    refine zw_if_eq (tg := 24) dX3_labelOfPartner_14 (by decide) rfl (fun c => ?_) (fun c => ?_)
    · have K := K.1 c
      refine zw_iinc (v := (v3 + (1 : Int32))) 3 dX3_labelOfPartner_24 rfl rfl (by decide) rfl rfl ?_
      refine zw_goto (np := 2) dX3_labelOfPartner_27 (by decide) ?_
      exact zw.sub [1, 2, 3, 0] rfl K
    · have K := K.2 c
      refine zw_aload_n 0 dX3_labelOfPartner_17 rfl rfl rfl ?_
      refine zw_getR f_X3_9 dX3_labelOfPartner_18 ho rfl rfl ?_
      refine zw_iload_n 3 dX3_labelOfPartner_21 rfl rfl rfl ?_
      obtain ⟨j2, hj2, hn2, K⟩ := K
      refine zw_iald j2 dX3_labelOfPartner_22 hla ⟨hj2, hn2⟩ (by decide) rfl ?_
      exact zw_ireturn (ty := .int) dX3_labelOfPartner_23 rfl rfl (Nat.le_refl 0) (Nat.le_refl 0) ⟨_, rfl, rfl, K⟩

set_option maxRecDepth 100000 in
set_option maxHeartbeats 4000000 in
theorem qX3_spell_0 {q : zw_H → Prop} {h : zw_H} {o la ma : Nat} {v1 v2 : Int32} (ho : zSK[o]? = some (.inl (3, [some (some la), some (some ma), none, none]))) (hla : zSK[la]? = some (.inr (0, 6, fun _ => none))) (hma : zSK[ma]? = some (.inr (0, 6, fun _ => none))) (K : (∀ h1 : zw_H, h1 = zw_sI h o 2 (zmin v2 (6 : Int32)) → (∀ h2 : zw_H, h2 = zw_sI h1 o 3 (0 : Int32) → kwV 2 mX3_spell q 17 [(0, .ref o), (1, .int v1), (3, .int (0 : Int32))] [] h2))) : kwV 2 mX3_spell q 0 [(0, .ref o), (1, .int v1), (2, .int v2)] [] h := by
  refine zw_aload_n 0 dX3_spell_0 rfl rfl rfl ?_
  refine zw_iload_n 2 dX3_spell_1 rfl rfl rfl ?_
  refine zw_bipush (v := (6 : Int32)) dX3_spell_2 (by decide) rfl ?_
  refine zw_min k_X3_18 dX3_spell_4 (by decide) (Nat.le_of_ble_eq_true rfl) (Nat.le_refl 0) (Nat.le_refl 0) rfl ?_
  refine zw_putI f_X3_24 cl_X3 rfl ⟨rfl, rfl⟩ dX3_spell_7 ho rfl rfl ?_
  generalize e1 : zw_sI h o 2 (zmin v2 (6 : Int32)) = h1
  have K := K h1 e1.symm
  refine zw_aload_n 0 dX3_spell_10 rfl rfl rfl ?_
  refine zw_iconst (v := (0 : Int32)) dX3_spell_11 (by decide) rfl ?_
  refine zw_putI f_X3_28 cl_X3 rfl ⟨rfl, rfl⟩ dX3_spell_12 ho rfl rfl ?_
  generalize e2 : zw_sI h1 o 3 (0 : Int32) = h2
  have K := K h2 e2.symm
  refine zw_iconst (v := (0 : Int32)) dX3_spell_15 (by decide) rfl ?_
  refine zw_istore_n dX3_spell_16 rfl (by decide) rfl rfl ?_
  exact zw.sub [1, 2, 0] rfl K

set_option maxRecDepth 100000 in
set_option maxHeartbeats 4000000 in
theorem qX3_spell_17 {q : zw_H → Prop} {h : zw_H} {o la ma : Nat} {v1 v3 : Int32} (ho : zSK[o]? = some (.inl (3, [some (some la), some (some ma), none, none]))) (hla : zSK[la]? = some (.inr (0, 6, fun _ => none))) (hma : zSK[ma]? = some (.inr (0, 6, fun _ => none))) (K : (((h.1 o 2) ≤ v3 → q h) ∧ (¬ (h.1 o 2) ≤ v3 → (∃ q1 : Int32 → zw_H → Prop, kcI 1 mX3_labelOfPartner [.ref o, .int v1, .int v3] h q1 ∧ (∀ (x1 : Int32) (h1 : zw_H), q1 x1 h1 → ((¬ x1 = (h1.1 o 3) → (∃ j2 : Nat, v3 = nI j2 ∧ j2 < 6 ∧ ∀ h3 : zw_H, h3 = zw_sI h1 la j2 x1 → (∃ j4 : Nat, x1 = nI j4 ∧ j4 < 6 ∧ (∃ j5 : Nat, x1 = nI j5 ∧ j5 < 6 ∧ ∀ h6 : zw_H, h6 = zw_sI h3 ma j5 ((h3.1 ma j4) ||| ((1 : Int32) <<< (v3 &&& 31))) → kwV 2 mX3_spell q 17 [(0, .ref o), (1, .int v1), (3, .int (v3 + (1 : Int32)))] [] h6)))) ∧ (x1 = (h1.1 o 3) → (∃ j7 : Nat, x1 = nI j7 ∧ j7 < 6 ∧ ∀ h8 : zw_H, h8 = zw_sI h1 ma j7 (0 : Int32) → (∀ h9 : zw_H, h9 = zw_sI h8 o 3 ((h8.1 o 3) + (1 : Int32)) → (∃ j10 : Nat, v3 = nI j10 ∧ j10 < 6 ∧ ∀ h11 : zw_H, h11 = zw_sI h9 la j10 x1 → (∃ j12 : Nat, x1 = nI j12 ∧ j12 < 6 ∧ (∃ j13 : Nat, x1 = nI j13 ∧ j13 < 6 ∧ ∀ h14 : zw_H, h14 = zw_sI h11 ma j13 ((h11.1 ma j12) ||| ((1 : Int32) <<< (v3 &&& 31))) → kwV 2 mX3_spell q 17 [(0, .ref o), (1, .int v1), (3, .int (v3 + (1 : Int32)))] [] h14)))))))))))) : kwV 2 mX3_spell q 17 [(0, .ref o), (1, .int v1), (3, .int v3)] [] h := by
  refine zw_iload_n 2 dX3_spell_17 rfl rfl rfl ?_
  refine zw_aload_n 0 dX3_spell_18 rfl rfl rfl ?_
  refine zw_getI f_X3_24 dX3_spell_19 ho rfl rfl ?_
  refine zw_icmp_ge (tg := 87) dX3_spell_22 (by decide) rfl (fun c => ?_) (fun c => ?_)
  · have K := K.1 c
    exact zw_return dX3_spell_87 rfl (Nat.le_refl 0) (Nat.le_refl 0) ⟨rfl, rfl, K⟩
  · have K := K.2 c
    refine zw_aload_n 0 dX3_spell_25 rfl rfl rfl ?_
    refine zw_iload_n 1 dX3_spell_26 rfl rfl rfl ?_
    refine zw_iload_n 2 dX3_spell_27 rfl rfl rfl ?_
    obtain ⟨q1, ct, K⟩ := K
    refine zw_callV (n := 2) (As := [.int v1, .int v3]) (rest := []) ct my_X3_labelOfPartner rfl rfl k_X3_31 i_X3_labelOfPartner s_X3_labelOfPartner ho rfl dX3_spell_28 (by decide) (Nat.le_of_ble_eq_true rfl) (Nat.le_refl 0) (Nat.le_refl 0) rfl (fun r s1 h1 hq => ?_)
    obtain ⟨x1, rfl, rfl, hq⟩ := hq
    have K := K x1 h1 hq
    refine zw.st (st' := [.int x1]) rfl ?_
    refine zw_istore dX3_spell_31 (by decide) rfl rfl ?_
    refine zw_iload 0 dX3_spell_33 rfl rfl ?_
    refine zw_aload_n 1 dX3_spell_35 rfl rfl rfl ?_
    refine zw_getI f_X3_28 dX3_spell_36 ho rfl rfl ?_
    refine zw_icmp_ne (tg := 60) dX3_spell_39 (by decide) rfl (fun c => ?_) (fun c => ?_)
    · have K := K.1 c
      refine zw_aload_n 1 dX3_spell_60 rfl rfl rfl ?_
      refine zw_getR f_X3_9 dX3_spell_61 ho rfl rfl ?_
      refine zw_iload_n 3 dX3_spell_64 rfl rfl rfl ?_
      refine zw_iload 0 dX3_spell_65 rfl rfl ?_
      obtain ⟨j2, hj2, hn2, K⟩ := K
      refine zw_iast j2 dX3_spell_67 hla ⟨hj2, hn2⟩ (by decide) rfl ?_
      generalize e3 : zw_sI h1 la j2 x1 = h3
      have K := K h3 e3.symm
      refine zw_aload_n 1 dX3_spell_68 rfl rfl rfl ?_
      refine zw_getR f_X3_15 dX3_spell_69 ho rfl rfl ?_
      refine zw_iload 0 dX3_spell_72 rfl rfl ?_
      refine zw_dup2 dX3_spell_74 rfl rfl rfl ?_
      obtain ⟨j4, hj4, hn4, K⟩ := K
      refine zw_iald j4 dX3_spell_75 hma ⟨hj4, hn4⟩ (by decide) rfl ?_
      refine zw_iconst (v := (1 : Int32)) dX3_spell_76 (by decide) rfl ?_
      refine zw_iload_n 3 dX3_spell_77 rfl rfl rfl ?_
      refine zw_ishl dX3_spell_78 rfl ?_
      refine zw_ior dX3_spell_79 rfl ?_
      obtain ⟨j5, hj5, hn5, K⟩ := K
      refine zw_iast j5 dX3_spell_80 hma ⟨hj5, hn5⟩ (by decide) rfl ?_
      generalize e6 : zw_sI h3 ma j5 ((h3.1 ma j4) ||| ((1 : Int32) <<< (v3 &&& 31))) = h6
      have K := K h6 e6.symm
      refine zw_iinc (v := (v3 + (1 : Int32))) 3 dX3_spell_81 rfl rfl (by decide) rfl rfl ?_
      refine zw_goto (np := 17) dX3_spell_84 (by decide) ?_
      exact zw.sub [2, 3, 0] rfl K
    · have K := K.2 c
      refine zw_aload_n 1 dX3_spell_42 rfl rfl rfl ?_
      refine zw_getR f_X3_15 dX3_spell_43 ho rfl rfl ?_
      refine zw_iload 0 dX3_spell_46 rfl rfl ?_
      refine zw_iconst (v := (0 : Int32)) dX3_spell_48 (by decide) rfl ?_
      obtain ⟨j7, hj7, hn7, K⟩ := K
      refine zw_iast j7 dX3_spell_49 hma ⟨hj7, hn7⟩ (by decide) rfl ?_
      generalize e8 : zw_sI h1 ma j7 (0 : Int32) = h8
      have K := K h8 e8.symm
      refine zw_aload_n 1 dX3_spell_50 rfl rfl rfl ?_
      refine zw_dup dX3_spell_51 rfl rfl ?_
      refine zw_getI f_X3_28 dX3_spell_52 ho rfl rfl ?_
      refine zw_iconst (v := (1 : Int32)) dX3_spell_55 (by decide) rfl ?_
      refine zw_iadd dX3_spell_56 rfl ?_
      refine zw_putI f_X3_28 cl_X3 rfl ⟨rfl, rfl⟩ dX3_spell_57 ho rfl rfl ?_
      generalize e9 : zw_sI h8 o 3 ((h8.1 o 3) + (1 : Int32)) = h9
      have K := K h9 e9.symm
      refine zw_aload_n 1 dX3_spell_60 rfl rfl rfl ?_
      refine zw_getR f_X3_9 dX3_spell_61 ho rfl rfl ?_
      refine zw_iload_n 3 dX3_spell_64 rfl rfl rfl ?_
      refine zw_iload 0 dX3_spell_65 rfl rfl ?_
      obtain ⟨j10, hj10, hn10, K⟩ := K
      refine zw_iast j10 dX3_spell_67 hla ⟨hj10, hn10⟩ (by decide) rfl ?_
      generalize e11 : zw_sI h9 la j10 x1 = h11
      have K := K h11 e11.symm
      refine zw_aload_n 1 dX3_spell_68 rfl rfl rfl ?_
      refine zw_getR f_X3_15 dX3_spell_69 ho rfl rfl ?_
      refine zw_iload 0 dX3_spell_72 rfl rfl ?_
      refine zw_dup2 dX3_spell_74 rfl rfl rfl ?_
      obtain ⟨j12, hj12, hn12, K⟩ := K
      refine zw_iald j12 dX3_spell_75 hma ⟨hj12, hn12⟩ (by decide) rfl ?_
      refine zw_iconst (v := (1 : Int32)) dX3_spell_76 (by decide) rfl ?_
      refine zw_iload_n 3 dX3_spell_77 rfl rfl rfl ?_
      refine zw_ishl dX3_spell_78 rfl ?_
      refine zw_ior dX3_spell_79 rfl ?_
      obtain ⟨j13, hj13, hn13, K⟩ := K
      refine zw_iast j13 dX3_spell_80 hma ⟨hj13, hn13⟩ (by decide) rfl ?_
      generalize e14 : zw_sI h11 ma j13 ((h11.1 ma j12) ||| ((1 : Int32) <<< (v3 &&& 31))) = h14
      have K := K h14 e14.symm
      refine zw_iinc (v := (v3 + (1 : Int32))) 3 dX3_spell_81 rfl rfl (by decide) rfl rfl ?_
      refine zw_goto (np := 17) dX3_spell_84 (by decide) ?_
      exact zw.sub [2, 3, 0] rfl K

set_option maxRecDepth 100000 in
set_option maxHeartbeats 4000000 in
theorem qX3_growthNumber_0 {q : Int32 → zw_H → Prop} {h : zw_H} {o la ma : Nat} (ho : zSK[o]? = some (.inl (3, [some (some la), some (some ma), none, none]))) (hla : zSK[la]? = some (.inr (0, 6, fun _ => none))) (hma : zSK[ma]? = some (.inr (0, 6, fun _ => none))) (K : kwI 0 mX3_growthNumber q 4 [(0, .ref o), (1, .int (0 : Int32)), (2, .int (0 : Int32))] [] h) : kwI 0 mX3_growthNumber q 0 [(0, .ref o)] [] h := by
  refine zw_iconst (v := (0 : Int32)) dX3_growthNumber_0 (by decide) rfl ?_
  refine zw_istore_n dX3_growthNumber_1 rfl (by decide) rfl rfl ?_
  refine zw_iconst (v := (0 : Int32)) dX3_growthNumber_2 (by decide) rfl ?_
  refine zw_istore_n dX3_growthNumber_3 rfl (by decide) rfl rfl ?_
  exact zw.sub [2, 1, 0] rfl K

set_option maxRecDepth 100000 in
set_option maxHeartbeats 4000000 in
theorem qX3_growthNumber_4 {q : Int32 → zw_H → Prop} {h : zw_H} {o la ma : Nat} {v1 v2 : Int32} (ho : zSK[o]? = some (.inl (3, [some (some la), some (some ma), none, none]))) (hla : zSK[la]? = some (.inr (0, 6, fun _ => none))) (hma : zSK[ma]? = some (.inr (0, 6, fun _ => none))) (K : (((h.1 o 2) ≤ v2 → q v1 h) ∧ (¬ (h.1 o 2) ≤ v2 → (∃ j1 : Nat, v2 = nI j1 ∧ j1 < 6 ∧ kwI 0 mX3_growthNumber q 4 [(0, .ref o), (1, .int ((v1 * (6 : Int32)) + (h.1 la j1))), (2, .int (v2 + (1 : Int32)))] [] h)))) : kwI 0 mX3_growthNumber q 4 [(0, .ref o), (1, .int v1), (2, .int v2)] [] h := by
  refine zw_iload_n 2 dX3_growthNumber_4 rfl rfl rfl ?_
  refine zw_aload_n 0 dX3_growthNumber_5 rfl rfl rfl ?_
  refine zw_getI f_X3_24 dX3_growthNumber_6 ho rfl rfl ?_
  refine zw_icmp_ge (tg := 30) dX3_growthNumber_9 (by decide) rfl (fun c => ?_) (fun c => ?_)
  · have K := K.1 c
    refine zw_iload_n 1 dX3_growthNumber_30 rfl rfl rfl ?_
    exact zw_ireturn (ty := .int) dX3_growthNumber_31 rfl rfl (Nat.le_refl 0) (Nat.le_refl 0) ⟨_, rfl, rfl, K⟩
  · have K := K.2 c
    refine zw_iload_n 1 dX3_growthNumber_12 rfl rfl rfl ?_
    refine zw_bipush (v := (6 : Int32)) dX3_growthNumber_13 (by decide) rfl ?_
    refine zw_imul dX3_growthNumber_15 rfl ?_
    refine zw_aload_n 0 dX3_growthNumber_16 rfl rfl rfl ?_
    refine zw_getR f_X3_9 dX3_growthNumber_17 ho rfl rfl ?_
    refine zw_iload_n 2 dX3_growthNumber_20 rfl rfl rfl ?_
    obtain ⟨j1, hj1, hn1, K⟩ := K
    refine zw_iald j1 dX3_growthNumber_21 hla ⟨hj1, hn1⟩ (by decide) rfl ?_
    refine zw_iadd dX3_growthNumber_22 rfl ?_
    refine zw_istore_n dX3_growthNumber_23 rfl (by decide) rfl rfl ?_
    refine zw_iinc (v := (v2 + (1 : Int32))) 2 dX3_growthNumber_24 rfl rfl (by decide) rfl rfl ?_
    refine zw_goto (np := 4) dX3_growthNumber_27 (by decide) ?_
    exact zw.sub [2, 1, 0] rfl K

set_option maxRecDepth 100000 in
set_option maxHeartbeats 4000000 in
theorem qX3_sizeSet_0 {q : Int32 → zw_H → Prop} {h : zw_H} {o la ma : Nat} (ho : zSK[o]? = some (.inl (3, [some (some la), some (some ma), none, none]))) (hla : zSK[la]? = some (.inr (0, 6, fun _ => none))) (hma : zSK[ma]? = some (.inr (0, 6, fun _ => none))) (K : kwI 1 mX3_sizeSet q 4 [(0, .ref o), (1, .int (0 : Int32)), (2, .int (0 : Int32))] [] h) : kwI 1 mX3_sizeSet q 0 [(0, .ref o)] [] h := by
  refine zw_iconst (v := (0 : Int32)) dX3_sizeSet_0 (by decide) rfl ?_
  refine zw_istore_n dX3_sizeSet_1 rfl (by decide) rfl rfl ?_
  refine zw_iconst (v := (0 : Int32)) dX3_sizeSet_2 (by decide) rfl ?_
  refine zw_istore_n dX3_sizeSet_3 rfl (by decide) rfl rfl ?_
  exact zw.sub [2, 1, 0] rfl K

set_option maxRecDepth 100000 in
set_option maxHeartbeats 4000000 in
theorem qX3_sizeSet_4 {q : Int32 → zw_H → Prop} {h : zw_H} {o la ma : Nat} {v1 v2 : Int32} (ho : zSK[o]? = some (.inl (3, [some (some la), some (some ma), none, none]))) (hla : zSK[la]? = some (.inr (0, 6, fun _ => none))) (hma : zSK[ma]? = some (.inr (0, 6, fun _ => none))) (K : (((h.1 o 3) ≤ v2 → q v1 h) ∧ (¬ (h.1 o 3) ≤ v2 → (∃ j1 : Nat, v2 = nI j1 ∧ j1 < 6 ∧ (∃ q2 : Int32 → zw_H → Prop, kcI 0 mJ6_bitCount_0f7a4 [.int (h.1 ma j1)] h q2 ∧ (∀ (x2 : Int32) (h2 : zw_H), q2 x2 h2 → kwI 1 mX3_sizeSet q 4 [(0, .ref o), (1, .int (v1 ||| ((1 : Int32) <<< (x2 &&& 31)))), (2, .int (v2 + (1 : Int32)))] [] h2)))))) : kwI 1 mX3_sizeSet q 4 [(0, .ref o), (1, .int v1), (2, .int v2)] [] h := by
  refine zw_iload_n 2 dX3_sizeSet_4 rfl rfl rfl ?_
  refine zw_aload_n 0 dX3_sizeSet_5 rfl rfl rfl ?_
  refine zw_getI f_X3_28 dX3_sizeSet_6 ho rfl rfl ?_
  refine zw_icmp_ge (tg := 32) dX3_sizeSet_9 (by decide) rfl (fun c => ?_) (fun c => ?_)
  · have K := K.1 c
    refine zw_iload_n 1 dX3_sizeSet_32 rfl rfl rfl ?_
    exact zw_ireturn (ty := .int) dX3_sizeSet_33 rfl rfl (Nat.le_refl 0) (Nat.le_refl 0) ⟨_, rfl, rfl, K⟩
  · have K := K.2 c
    refine zw_iload_n 1 dX3_sizeSet_12 rfl rfl rfl ?_
    refine zw_iconst (v := (1 : Int32)) dX3_sizeSet_13 (by decide) rfl ?_
    refine zw_aload_n 0 dX3_sizeSet_14 rfl rfl rfl ?_
    refine zw_getR f_X3_15 dX3_sizeSet_15 ho rfl rfl ?_
    refine zw_iload_n 2 dX3_sizeSet_18 rfl rfl rfl ?_
    obtain ⟨j1, hj1, hn1, K⟩ := K
    refine zw_iald j1 dX3_sizeSet_19 hma ⟨hj1, hn1⟩ (by decide) rfl ?_
    obtain ⟨q2, ct, K⟩ := K
    refine zw_callS (n := 1) (As := [.int (h.1 ma j1)]) (rest := [.int (1 : Int32), .int v1]) ct my_J6_bitCount_0f7a4 rfl rfl k_X3_37 t_J6_bitCount_0f7a4 dX3_sizeSet_20 (by decide) (Nat.le_of_ble_eq_true rfl) (Nat.le_refl 0) (Nat.le_refl 0) rfl (fun r s1 h2 hq => ?_)
    obtain ⟨x2, rfl, rfl, hq⟩ := hq
    have K := K x2 h2 hq
    refine zw.st (st' := [.int x2, .int (1 : Int32), .int v1]) rfl ?_
    refine zw_ishl dX3_sizeSet_23 rfl ?_
    refine zw_ior dX3_sizeSet_24 rfl ?_
    refine zw_istore_n dX3_sizeSet_25 rfl (by decide) rfl rfl ?_
    refine zw_iinc (v := (v2 + (1 : Int32))) 2 dX3_sizeSet_26 rfl rfl (by decide) rfl rfl ?_
    refine zw_goto (np := 4) dX3_sizeSet_29 (by decide) ?_
    exact zw.sub [2, 1, 0] rfl K

set_option maxRecDepth 100000 in
set_option maxHeartbeats 4000000 in
theorem qX3_areCrossing_0 {q : Int32 → zw_H → Prop} {h : zw_H} {v0 v1 : Int32} (K : kwI 0 mX3_areCrossing q 7 [(0, .int v0), (1, .int v1), (2, .int (0 : Int32)), (3, .int (0 : Int32)), (4, .int (0 : Int32))] [] h) : kwI 0 mX3_areCrossing q 0 [(0, .int v0), (1, .int v1)] [] h := by
  refine zw_iconst (v := (0 : Int32)) dX3_areCrossing_0 (by decide) rfl ?_
  refine zw_istore_n dX3_areCrossing_1 rfl (by decide) rfl rfl ?_
  refine zw_iconst (v := (0 : Int32)) dX3_areCrossing_2 (by decide) rfl ?_
  refine zw_istore_n dX3_areCrossing_3 rfl (by decide) rfl rfl ?_
  refine zw_iconst (v := (0 : Int32)) dX3_areCrossing_4 (by decide) rfl ?_
  refine zw_istore dX3_areCrossing_5 (by decide) rfl rfl ?_
  exact zw.sub [3, 4, 2, 1, 0] rfl K

set_option maxRecDepth 100000 in
set_option maxHeartbeats 4000000 in
theorem qX3_areCrossing_7 {q : Int32 → zw_H → Prop} {h : zw_H} {v0 v1 v2 v3 v4 : Int32} (K : (((6 : Int32) ≤ v4 → ((v2 < (4 : Int32) → q (0 : Int32) h) ∧ (¬ v2 < (4 : Int32) → q (1 : Int32) h))) ∧ (¬ (6 : Int32) ≤ v4 → ((((v0 >>> (v4 &&& 31)) &&& (1 : Int32)) = 0 → ((((v1 >>> (v4 &&& 31)) &&& (1 : Int32)) = 0 → ((v3 = v3 → kwI 0 mX3_areCrossing q 7 [(0, .int v0), (1, .int v1), (2, .int v2), (3, .int v3), (4, .int (v4 + (1 : Int32)))] [] h) ∧ (¬ v3 = v3 → kwI 0 mX3_areCrossing q 7 [(0, .int v0), (1, .int v1), (2, .int (v2 + (1 : Int32))), (3, .int v3), (4, .int (v4 + (1 : Int32)))] [] h))) ∧ (¬ ((v1 >>> (v4 &&& 31)) &&& (1 : Int32)) = 0 → (((2 : Int32) = v3 → kwI 0 mX3_areCrossing q 7 [(0, .int v0), (1, .int v1), (2, .int v2), (3, .int v3), (4, .int (v4 + (1 : Int32)))] [] h) ∧ (¬ (2 : Int32) = v3 → kwI 0 mX3_areCrossing q 7 [(0, .int v0), (1, .int v1), (2, .int (v2 + (1 : Int32))), (3, .int (2 : Int32)), (4, .int (v4 + (1 : Int32)))] [] h))))) ∧ (¬ ((v0 >>> (v4 &&& 31)) &&& (1 : Int32)) = 0 → (((1 : Int32) = v3 → kwI 0 mX3_areCrossing q 7 [(0, .int v0), (1, .int v1), (2, .int v2), (3, .int v3), (4, .int (v4 + (1 : Int32)))] [] h) ∧ (¬ (1 : Int32) = v3 → kwI 0 mX3_areCrossing q 7 [(0, .int v0), (1, .int v1), (2, .int (v2 + (1 : Int32))), (3, .int (1 : Int32)), (4, .int (v4 + (1 : Int32)))] [] h))))))) : kwI 0 mX3_areCrossing q 7 [(0, .int v0), (1, .int v1), (2, .int v2), (3, .int v3), (4, .int v4)] [] h := by
  refine zw_iload 4 dX3_areCrossing_7 rfl rfl ?_
  refine zw_bipush (v := (6 : Int32)) dX3_areCrossing_9 (by decide) rfl ?_
  refine zw_icmp_ge (tg := 61) dX3_areCrossing_11 (by decide) rfl (fun c => ?_) (fun c => ?_)
  · have K := K.1 c
    refine zw_iload_n 2 dX3_areCrossing_61 rfl rfl rfl ?_
    refine zw_iconst (v := (4 : Int32)) dX3_areCrossing_62 (by decide) rfl ?_
    refine zw_icmp_lt (tg := 70) dX3_areCrossing_63 (by decide) rfl (fun c => ?_) (fun c => ?_)
    · have K := K.1 c
      refine zw_iconst (v := (0 : Int32)) dX3_areCrossing_70 (by decide) rfl ?_
      exact zw_ireturn (ty := .boolean) dX3_areCrossing_71 rfl rfl (Nat.le_refl 0) (Nat.le_refl 0) ⟨_, rfl, rfl, K⟩
    · have K := K.2 c
      refine zw_iconst (v := (1 : Int32)) dX3_areCrossing_66 (by decide) rfl ?_
      refine zw_goto (np := 71) dX3_areCrossing_67 (by decide) ?_
      exact zw_ireturn (ty := .boolean) dX3_areCrossing_71 rfl rfl (Nat.le_refl 0) (Nat.le_refl 0) ⟨_, rfl, rfl, K⟩
  · have K := K.2 c
    refine zw_iload_n 0 dX3_areCrossing_14 rfl rfl rfl ?_
    refine zw_iload 4 dX3_areCrossing_15 rfl rfl ?_
    refine zw_ishr dX3_areCrossing_17 rfl ?_
    refine zw_iconst (v := (1 : Int32)) dX3_areCrossing_18 (by decide) rfl ?_
    refine zw_iand dX3_areCrossing_19 rfl ?_
    refine zw_if_eq (tg := 27) dX3_areCrossing_20 (by decide) rfl (fun c => ?_) (fun c => ?_)
    · have K := K.1 c
      refine zw_iload_n 1 dX3_areCrossing_27 rfl rfl rfl ?_
      refine zw_iload 4 dX3_areCrossing_28 rfl rfl ?_
      refine zw_ishr dX3_areCrossing_30 rfl ?_
      refine zw_iconst (v := (1 : Int32)) dX3_areCrossing_31 (by decide) rfl ?_
      refine zw_iand dX3_areCrossing_32 rfl ?_
      refine zw_if_eq (tg := 40) dX3_areCrossing_33 (by decide) rfl (fun c => ?_) (fun c => ?_)
      · have K := K.1 c
        refine zw_iload_n 3 dX3_areCrossing_40 rfl rfl rfl ?_
        refine zw_istore dX3_areCrossing_41 (by decide) rfl rfl ?_
        refine zw_iload 0 dX3_areCrossing_43 rfl rfl ?_
        refine zw_iload_n 4 dX3_areCrossing_45 rfl rfl rfl ?_
        refine zw_icmp_eq (tg := 55) dX3_areCrossing_46 (by decide) rfl (fun c => ?_) (fun c => ?_)
        · have K := K.1 c
          refine zw_iinc (v := (v4 + (1 : Int32))) 5 dX3_areCrossing_55 rfl rfl (by decide) rfl rfl ?_
          refine zw_goto (np := 7) dX3_areCrossing_58 (by decide) ?_
          exact zw.sub [2, 3, 4, 5, 0] rfl K
        · have K := K.2 c
          refine zw_iload 0 dX3_areCrossing_49 rfl rfl ?_
          refine zw_istore_n dX3_areCrossing_51 rfl (by decide) rfl rfl ?_
          refine zw_iinc (v := (v2 + (1 : Int32))) 4 dX3_areCrossing_52 rfl rfl (by decide) rfl rfl ?_
          refine zw_iinc (v := (v4 + (1 : Int32))) 5 dX3_areCrossing_55 rfl rfl (by decide) rfl rfl ?_
          refine zw_goto (np := 7) dX3_areCrossing_58 (by decide) ?_
          exact zw.sub [4, 5, 1, 2, 0] rfl K
      · have K := K.2 c
        refine zw_iconst (v := (2 : Int32)) dX3_areCrossing_36 (by decide) rfl ?_
        refine zw_goto (np := 41) dX3_areCrossing_37 (by decide) ?_
        refine zw_istore dX3_areCrossing_41 (by decide) rfl rfl ?_
        refine zw_iload 0 dX3_areCrossing_43 rfl rfl ?_
        refine zw_iload_n 4 dX3_areCrossing_45 rfl rfl rfl ?_
        refine zw_icmp_eq (tg := 55) dX3_areCrossing_46 (by decide) rfl (fun c => ?_) (fun c => ?_)
        · have K := K.1 c
          refine zw_iinc (v := (v4 + (1 : Int32))) 5 dX3_areCrossing_55 rfl rfl (by decide) rfl rfl ?_
          refine zw_goto (np := 7) dX3_areCrossing_58 (by decide) ?_
          exact zw.sub [2, 3, 4, 5, 0] rfl K
        · have K := K.2 c
          refine zw_iload 0 dX3_areCrossing_49 rfl rfl ?_
          refine zw_istore_n dX3_areCrossing_51 rfl (by decide) rfl rfl ?_
          refine zw_iinc (v := (v2 + (1 : Int32))) 4 dX3_areCrossing_52 rfl rfl (by decide) rfl rfl ?_
          refine zw_iinc (v := (v4 + (1 : Int32))) 5 dX3_areCrossing_55 rfl rfl (by decide) rfl rfl ?_
          refine zw_goto (np := 7) dX3_areCrossing_58 (by decide) ?_
          exact zw.sub [4, 5, 1, 2, 0] rfl K
    · have K := K.2 c
      refine zw_iconst (v := (1 : Int32)) dX3_areCrossing_23 (by decide) rfl ?_
      refine zw_goto (np := 41) dX3_areCrossing_24 (by decide) ?_
      refine zw_istore dX3_areCrossing_41 (by decide) rfl rfl ?_
      refine zw_iload 0 dX3_areCrossing_43 rfl rfl ?_
      refine zw_iload_n 4 dX3_areCrossing_45 rfl rfl rfl ?_
      refine zw_icmp_eq (tg := 55) dX3_areCrossing_46 (by decide) rfl (fun c => ?_) (fun c => ?_)
      · have K := K.1 c
        refine zw_iinc (v := (v4 + (1 : Int32))) 5 dX3_areCrossing_55 rfl rfl (by decide) rfl rfl ?_
        refine zw_goto (np := 7) dX3_areCrossing_58 (by decide) ?_
        exact zw.sub [2, 3, 4, 5, 0] rfl K
      · have K := K.2 c
        refine zw_iload 0 dX3_areCrossing_49 rfl rfl ?_
        refine zw_istore_n dX3_areCrossing_51 rfl (by decide) rfl rfl ?_
        refine zw_iinc (v := (v2 + (1 : Int32))) 4 dX3_areCrossing_52 rfl rfl (by decide) rfl rfl ?_
        refine zw_iinc (v := (v4 + (1 : Int32))) 5 dX3_areCrossing_55 rfl rfl (by decide) rfl rfl ?_
        refine zw_goto (np := 7) dX3_areCrossing_58 (by decide) ?_
        exact zw.sub [4, 5, 1, 2, 0] rfl K

set_option maxRecDepth 100000 in
set_option maxHeartbeats 4000000 in
theorem qX3_firstCrossing_0 {q : Int32 → zw_H → Prop} {h : zw_H} {o la ma : Nat} (ho : zSK[o]? = some (.inl (3, [some (some la), some (some ma), none, none]))) (hla : zSK[la]? = some (.inr (0, 6, fun _ => none))) (hma : zSK[ma]? = some (.inr (0, 6, fun _ => none))) (K : kwI 1 mX3_firstCrossing q 2 [(0, .ref o), (1, .int (0 : Int32))] [] h) : kwI 1 mX3_firstCrossing q 0 [(0, .ref o)] [] h := by
  refine zw_iconst (v := (0 : Int32)) dX3_firstCrossing_0 (by decide) rfl ?_
  refine zw_istore_n dX3_firstCrossing_1 rfl (by decide) rfl rfl ?_
  exact zw.sub [1, 0] rfl K

set_option maxRecDepth 100000 in
set_option maxHeartbeats 4000000 in
theorem qX3_firstCrossing_2 {q : Int32 → zw_H → Prop} {h : zw_H} {o la ma : Nat} {v1 : Int32} (ho : zSK[o]? = some (.inl (3, [some (some la), some (some ma), none, none]))) (hla : zSK[la]? = some (.inr (0, 6, fun _ => none))) (hma : zSK[ma]? = some (.inr (0, 6, fun _ => none))) (K : (((h.1 o 3) ≤ v1 → q (-9 : Int32) h) ∧ (¬ (h.1 o 3) ≤ v1 → kwI 1 mX3_firstCrossing q 14 [(0, .ref o), (1, .int v1), (2, .int (v1 + (1 : Int32)))] [] h))) : kwI 1 mX3_firstCrossing q 2 [(0, .ref o), (1, .int v1)] [] h := by
  refine zw_iload_n 1 dX3_firstCrossing_2 rfl rfl rfl ?_
  refine zw_aload_n 0 dX3_firstCrossing_3 rfl rfl rfl ?_
  refine zw_getI f_X3_28 dX3_firstCrossing_4 ho rfl rfl ?_
  refine zw_icmp_ge (tg := 59) dX3_firstCrossing_7 (by decide) rfl (fun c => ?_) (fun c => ?_)
  · have K := K.1 c
    refine zw_bipush (v := (-9 : Int32)) dX3_firstCrossing_59 (by decide) rfl ?_
    exact zw_ireturn (ty := .int) dX3_firstCrossing_61 rfl rfl (Nat.le_refl 0) (Nat.le_refl 0) ⟨_, rfl, rfl, K⟩
  · have K := K.2 c
    refine zw_iload_n 1 dX3_firstCrossing_10 rfl rfl rfl ?_
    refine zw_iconst (v := (1 : Int32)) dX3_firstCrossing_11 (by decide) rfl ?_
    refine zw_iadd dX3_firstCrossing_12 rfl ?_
    refine zw_istore_n dX3_firstCrossing_13 rfl (by decide) rfl rfl ?_
    exact zw.sub [1, 2, 0] rfl K

set_option maxRecDepth 100000 in
set_option maxHeartbeats 4000000 in
theorem qX3_firstCrossing_14 {q : Int32 → zw_H → Prop} {h : zw_H} {o la ma : Nat} {v1 v2 : Int32} (ho : zSK[o]? = some (.inl (3, [some (some la), some (some ma), none, none]))) (hla : zSK[la]? = some (.inr (0, 6, fun _ => none))) (hma : zSK[ma]? = some (.inr (0, 6, fun _ => none))) (K : (((h.1 o 3) ≤ v2 → kwI 1 mX3_firstCrossing q 2 [(0, .ref o), (1, .int (v1 + (1 : Int32)))] [] h) ∧ (¬ (h.1 o 3) ≤ v2 → (∃ j1 : Nat, v1 = nI j1 ∧ j1 < 6 ∧ (∃ j2 : Nat, v2 = nI j2 ∧ j2 < 6 ∧ (∃ q3 : Int32 → zw_H → Prop, kcI 0 mX3_areCrossing [.int (h.1 ma j1), .int (h.1 ma j2)] h q3 ∧ (∀ (x3 : Int32) (h3 : zw_H), q3 x3 h3 → ((x3 = 0 → kwI 1 mX3_firstCrossing q 14 [(0, .ref o), (1, .int v1), (2, .int (v2 + (1 : Int32)))] [] h3) ∧ (¬ x3 = 0 → q (((10 : Int32) * v1) + v2) h3))))))))) : kwI 1 mX3_firstCrossing q 14 [(0, .ref o), (1, .int v1), (2, .int v2)] [] h := by
  refine zw_iload_n 2 dX3_firstCrossing_14 rfl rfl rfl ?_
  refine zw_aload_n 0 dX3_firstCrossing_15 rfl rfl rfl ?_
  refine zw_getI f_X3_28 dX3_firstCrossing_16 ho rfl rfl ?_
  refine zw_icmp_ge (tg := 53) dX3_firstCrossing_19 (by decide) rfl (fun c => ?_) (fun c => ?_)
  · have K := K.1 c
    refine zw_iinc (v := (v1 + (1 : Int32))) 1 dX3_firstCrossing_53 rfl rfl (by decide) rfl rfl ?_
    refine zw_goto (np := 2) dX3_firstCrossing_56 (by decide) ?_
    exact zw.sub [1, 0] rfl K
  · have K := K.2 c
    refine zw_aload_n 0 dX3_firstCrossing_22 rfl rfl rfl ?_
    refine zw_getR f_X3_15 dX3_firstCrossing_23 ho rfl rfl ?_
    refine zw_iload_n 1 dX3_firstCrossing_26 rfl rfl rfl ?_
    obtain ⟨j1, hj1, hn1, K⟩ := K
    refine zw_iald j1 dX3_firstCrossing_27 hma ⟨hj1, hn1⟩ (by decide) rfl ?_
    refine zw_aload_n 0 dX3_firstCrossing_28 rfl rfl rfl ?_
    refine zw_getR f_X3_15 dX3_firstCrossing_29 ho rfl rfl ?_
    refine zw_iload_n 2 dX3_firstCrossing_32 rfl rfl rfl ?_
    obtain ⟨j2, hj2, hn2, K⟩ := K
    refine zw_iald j2 dX3_firstCrossing_33 hma ⟨hj2, hn2⟩ (by decide) rfl ?_
    obtain ⟨q3, ct, K⟩ := K
    refine zw_callS (n := 2) (As := [.int (h.1 ma j1), .int (h.1 ma j2)]) (rest := []) ct my_X3_areCrossing rfl rfl k_X3_43 t_X3_areCrossing dX3_firstCrossing_34 (by decide) (Nat.le_of_ble_eq_true rfl) (Nat.le_refl 0) (Nat.le_refl 0) rfl (fun r s1 h3 hq => ?_)
    obtain ⟨x3, rfl, rfl, hq⟩ := hq
    have K := K x3 h3 hq
    refine zw.st (st' := [.int x3]) rfl ?_
    refine zw_if_eq (tg := 47) dX3_firstCrossing_37 (by decide) rfl (fun c => ?_) (fun c => ?_)
    · have K := K.1 c
      refine zw_iinc (v := (v2 + (1 : Int32))) 2 dX3_firstCrossing_47 rfl rfl (by decide) rfl rfl ?_
      refine zw_goto (np := 14) dX3_firstCrossing_50 (by decide) ?_
      exact zw.sub [1, 2, 0] rfl K
    · have K := K.2 c
      refine zw_bipush (v := (10 : Int32)) dX3_firstCrossing_40 (by decide) rfl ?_
      refine zw_iload_n 1 dX3_firstCrossing_42 rfl rfl rfl ?_
      refine zw_imul dX3_firstCrossing_43 rfl ?_
      refine zw_iload_n 2 dX3_firstCrossing_44 rfl rfl rfl ?_
      refine zw_iadd dX3_firstCrossing_45 rfl ?_
      exact zw_ireturn (ty := .int) dX3_firstCrossing_46 rfl rfl (Nat.le_refl 0) (Nat.le_refl 0) ⟨_, rfl, rfl, K⟩

set_option maxRecDepth 100000 in
set_option maxHeartbeats 4000000 in
theorem qX5_reset_0 {q : zw_H → Prop} {h : zw_H} {v1 : Int32} (K : kwV 0 mX5_reset q 2 [(0, .ref 1), (1, .int v1), (2, .int (0 : Int32))] [] h) : kwV 0 mX5_reset q 0 [(0, .ref 1), (1, .int v1)] [] h := by
  refine zw_iconst (v := (0 : Int32)) dX5_reset_0 (by decide) rfl ?_
  refine zw_istore_n dX5_reset_1 rfl (by decide) rfl rfl ?_
  exact zw.sub [1, 2, 0] rfl K

set_option maxRecDepth 100000 in
set_option maxHeartbeats 4000000 in
theorem qX5_reset_2 {q : zw_H → Prop} {h : zw_H} {v1 v2 : Int32} (K : (((8 : Int32) ≤ v2 → (∀ h1 : zw_H, h1 = zw_sI h 1 1 v1 → (∀ h2 : zw_H, h2 = zw_sI h1 1 2 (126 : Int32) → (∀ h3 : zw_H, h3 = zw_sI h2 1 3 (126 : Int32) → (∀ h4 : zw_H, h4 = zw_sI h3 1 4 (0 : Int32) → (∀ h5 : zw_H, h5 = zw_sI h4 1 5 (0 : Int32) → (∀ h6 : zw_H, h6 = zw_sI h5 1 6 (0 : Int32) → q h6))))))) ∧ (¬ (8 : Int32) ≤ v2 → (∃ j7 : Nat, v2 = nI j7 ∧ j7 < 8 ∧ ∀ h8 : zw_H, h8 = zw_sI h 2 j7 (-1 : Int32) → kwV 0 mX5_reset q 2 [(0, .ref 1), (1, .int v1), (2, .int (v2 + (1 : Int32)))] [] h8)))) : kwV 0 mX5_reset q 2 [(0, .ref 1), (1, .int v1), (2, .int v2)] [] h := by
  refine zw_iload_n 2 dX5_reset_2 rfl rfl rfl ?_
  refine zw_bipush (v := (8 : Int32)) dX5_reset_3 (by decide) rfl ?_
  refine zw_icmp_ge (tg := 21) dX5_reset_5 (by decide) rfl (fun c => ?_) (fun c => ?_)
  · have K := K.1 c
    refine zw_aload_n 0 dX5_reset_21 rfl rfl rfl ?_
    refine zw_iload_n 1 dX5_reset_22 rfl rfl rfl ?_
    refine zw_putI f_X5_15 cl_X5 rfl ⟨rfl, rfl⟩ dX5_reset_23 zk_1 rfl rfl ?_
    generalize e1 : zw_sI h 1 1 v1 = h1
    have K := K h1 e1.symm
    refine zw_aload_n 0 dX5_reset_26 rfl rfl rfl ?_
    refine zw_bipush (v := (126 : Int32)) dX5_reset_27 (by decide) rfl ?_
    refine zw_putI f_X5_19 cl_X5 rfl ⟨rfl, rfl⟩ dX5_reset_29 zk_1 rfl rfl ?_
    generalize e2 : zw_sI h1 1 2 (126 : Int32) = h2
    have K := K h2 e2.symm
    refine zw_aload_n 0 dX5_reset_32 rfl rfl rfl ?_
    refine zw_bipush (v := (126 : Int32)) dX5_reset_33 (by decide) rfl ?_
    refine zw_putI f_X5_22 cl_X5 rfl ⟨rfl, rfl⟩ dX5_reset_35 zk_1 rfl rfl ?_
    generalize e3 : zw_sI h2 1 3 (126 : Int32) = h3
    have K := K h3 e3.symm
    refine zw_aload_n 0 dX5_reset_38 rfl rfl rfl ?_
    refine zw_iconst (v := (0 : Int32)) dX5_reset_39 (by decide) rfl ?_
    refine zw_putI f_X5_25 cl_X5 rfl ⟨rfl, rfl⟩ dX5_reset_40 zk_1 rfl rfl ?_
    generalize e4 : zw_sI h3 1 4 (0 : Int32) = h4
    have K := K h4 e4.symm
    refine zw_aload_n 0 dX5_reset_43 rfl rfl rfl ?_
    refine zw_iconst (v := (0 : Int32)) dX5_reset_44 (by decide) rfl ?_
    refine zw_putI f_X5_28 cl_X5 rfl ⟨rfl, rfl⟩ dX5_reset_45 zk_1 rfl rfl ?_
    generalize e5 : zw_sI h4 1 5 (0 : Int32) = h5
    have K := K h5 e5.symm
    refine zw_aload_n 0 dX5_reset_48 rfl rfl rfl ?_
    refine zw_iconst (v := (0 : Int32)) dX5_reset_49 (by decide) rfl ?_
    refine zw_putI f_X5_31 cl_X5 rfl ⟨rfl, rfl⟩ dX5_reset_50 zk_1 rfl rfl ?_
    generalize e6 : zw_sI h5 1 6 (0 : Int32) = h6
    have K := K h6 e6.symm
    exact zw_return dX5_reset_53 rfl (Nat.le_refl 0) (Nat.le_refl 0) ⟨rfl, rfl, K⟩
  · have K := K.2 c
    refine zw_aload_n 0 dX5_reset_8 rfl rfl rfl ?_
    refine zw_getR f_X5_9 dX5_reset_9 zk_1 rfl rfl ?_
    refine zw_iload_n 2 dX5_reset_12 rfl rfl rfl ?_
    refine zw_iconst (v := (-1 : Int32)) dX5_reset_13 (by decide) rfl ?_
    obtain ⟨j7, hj7, hn7, K⟩ := K
    refine zw_iast j7 dX5_reset_14 zk_2 ⟨hj7, hn7⟩ (by decide) rfl ?_
    generalize e8 : zw_sI h 2 j7 (-1 : Int32) = h8
    have K := K h8 e8.symm
    refine zw_iinc (v := (v2 + (1 : Int32))) 2 dX5_reset_15 rfl rfl (by decide) rfl rfl ?_
    refine zw_goto (np := 2) dX5_reset_18 (by decide) ?_
    exact zw.sub [1, 2, 0] rfl K

set_option maxRecDepth 100000 in
set_option maxHeartbeats 4000000 in
theorem qX5_reason_0 {q : Int32 → zw_H → Prop} {h : zw_H} {v1 v2 v3 v4 : Int32} (K : (((v2 &&& ((h.1 1 2) ^^^ (-1 : Int32))) = 0 → ((¬ (((h.1 1 3) >>> (v3 &&& 31)) &&& (1 : Int32)) = 0 → (((v1 &&& (h.1 1 4)) = 0 → ((((h.1 1 5) &&& (v1 ^^^ (-1 : Int32))) = 0 → (((h.1 1 6) = 0 → q (0 : Int32) h) ∧ (¬ (h.1 1 6) = 0 → ((v4 = 0 → q (0 : Int32) h) ∧ (¬ v4 = 0 → q (5 : Int32) h))))) ∧ (¬ ((h.1 1 5) &&& (v1 ^^^ (-1 : Int32))) = 0 → q (4 : Int32) h))) ∧ (¬ (v1 &&& (h.1 1 4)) = 0 → q (3 : Int32) h))) ∧ ((((h.1 1 3) >>> (v3 &&& 31)) &&& (1 : Int32)) = 0 → q (2 : Int32) h))) ∧ (¬ (v2 &&& ((h.1 1 2) ^^^ (-1 : Int32))) = 0 → q (1 : Int32) h))) : kwI 0 mX5_reason q 0 [(0, .ref 1), (1, .int v1), (2, .int v2), (3, .int v3), (4, .int v4)] [] h := by
  refine zw_iload_n 2 dX5_reason_0 rfl rfl rfl ?_
  refine zw_aload_n 0 dX5_reason_1 rfl rfl rfl ?_
  refine zw_getI f_X5_19 dX5_reason_2 zk_1 rfl rfl ?_
  refine zw_iconst (v := (-1 : Int32)) dX5_reason_5 (by decide) rfl ?_
  refine zw_ixor dX5_reason_6 rfl ?_
  refine zw_iand dX5_reason_7 rfl ?_
  refine zw_if_eq (tg := 13) dX5_reason_8 (by decide) rfl (fun c => ?_) (fun c => ?_)
  · have K := K.1 c
    refine zw_aload_n 0 dX5_reason_13 rfl rfl rfl ?_
    refine zw_getI f_X5_22 dX5_reason_14 zk_1 rfl rfl ?_
    refine zw_iload_n 3 dX5_reason_17 rfl rfl rfl ?_
    refine zw_ishr dX5_reason_18 rfl ?_
    refine zw_iconst (v := (1 : Int32)) dX5_reason_19 (by decide) rfl ?_
    refine zw_iand dX5_reason_20 rfl ?_
    refine zw_if_ne (tg := 26) dX5_reason_21 (by decide) rfl (fun c => ?_) (fun c => ?_)
    · have K := K.1 c
      refine zw_iload_n 1 dX5_reason_26 rfl rfl rfl ?_
      refine zw_aload_n 0 dX5_reason_27 rfl rfl rfl ?_
      refine zw_getI f_X5_25 dX5_reason_28 zk_1 rfl rfl ?_
      refine zw_iand dX5_reason_31 rfl ?_
      refine zw_if_eq (tg := 37) dX5_reason_32 (by decide) rfl (fun c => ?_) (fun c => ?_)
      · have K := K.1 c
        refine zw_aload_n 0 dX5_reason_37 rfl rfl rfl ?_
        refine zw_getI f_X5_28 dX5_reason_38 zk_1 rfl rfl ?_
        refine zw_iload_n 1 dX5_reason_41 rfl rfl rfl ?_
        refine zw_iconst (v := (-1 : Int32)) dX5_reason_42 (by decide) rfl ?_
        refine zw_ixor dX5_reason_43 rfl ?_
        refine zw_iand dX5_reason_44 rfl ?_
        refine zw_if_eq (tg := 50) dX5_reason_45 (by decide) rfl (fun c => ?_) (fun c => ?_)
        · have K := K.1 c
          refine zw_aload_n 0 dX5_reason_50 rfl rfl rfl ?_
          refine zw_getI f_X5_31 dX5_reason_51 zk_1 rfl rfl ?_
          refine zw_if_eq (tg := 66) dX5_reason_54 (by decide) rfl (fun c => ?_) (fun c => ?_)
          · have K := K.1 c
            refine zw_iconst (v := (0 : Int32)) dX5_reason_66 (by decide) rfl ?_
            exact zw_ireturn (ty := .int) dX5_reason_67 rfl rfl (Nat.le_refl 0) (Nat.le_refl 0) ⟨_, rfl, rfl, K⟩
          · have K := K.2 c
            refine zw_iload 4 dX5_reason_57 rfl rfl ?_
            refine zw_if_eq (tg := 66) dX5_reason_59 (by decide) rfl (fun c => ?_) (fun c => ?_)
            · have K := K.1 c
              refine zw_iconst (v := (0 : Int32)) dX5_reason_66 (by decide) rfl ?_
              exact zw_ireturn (ty := .int) dX5_reason_67 rfl rfl (Nat.le_refl 0) (Nat.le_refl 0) ⟨_, rfl, rfl, K⟩
            · have K := K.2 c
              refine zw_iconst (v := (5 : Int32)) dX5_reason_62 (by decide) rfl ?_
              refine zw_goto (np := 67) dX5_reason_63 (by decide) ?_
              exact zw_ireturn (ty := .int) dX5_reason_67 rfl rfl (Nat.le_refl 0) (Nat.le_refl 0) ⟨_, rfl, rfl, K⟩
        · have K := K.2 c
          refine zw_iconst (v := (4 : Int32)) dX5_reason_48 (by decide) rfl ?_
          exact zw_ireturn (ty := .int) dX5_reason_49 rfl rfl (Nat.le_refl 0) (Nat.le_refl 0) ⟨_, rfl, rfl, K⟩
      · have K := K.2 c
        refine zw_iconst (v := (3 : Int32)) dX5_reason_35 (by decide) rfl ?_
        exact zw_ireturn (ty := .int) dX5_reason_36 rfl rfl (Nat.le_refl 0) (Nat.le_refl 0) ⟨_, rfl, rfl, K⟩
    · have K := K.2 c
      refine zw_iconst (v := (2 : Int32)) dX5_reason_24 (by decide) rfl ?_
      exact zw_ireturn (ty := .int) dX5_reason_25 rfl rfl (Nat.le_refl 0) (Nat.le_refl 0) ⟨_, rfl, rfl, K⟩
  · have K := K.2 c
    refine zw_iconst (v := (1 : Int32)) dX5_reason_11 (by decide) rfl ?_
    exact zw_ireturn (ty := .int) dX5_reason_12 rfl rfl (Nat.le_refl 0) (Nat.le_refl 0) ⟨_, rfl, rfl, K⟩

set_option maxRecDepth 100000 in
set_option maxHeartbeats 4000000 in
theorem qX0_pairsOfGrowth_0 {q : Int32 → zw_H → Prop} {h : zw_H} (K : kwI 0 mX0_pairsOfGrowth q 4 [(0, .ref 27), (1, .int (0 : Int32)), (2, .int (0 : Int32))] [] h) : kwI 0 mX0_pairsOfGrowth q 0 [(0, .ref 27)] [] h := by
  refine zw_iconst (v := (0 : Int32)) dX0_pairsOfGrowth_0 (by decide) rfl ?_
  refine zw_istore_n dX0_pairsOfGrowth_1 rfl (by decide) rfl rfl ?_
  refine zw_iconst (v := (0 : Int32)) dX0_pairsOfGrowth_2 (by decide) rfl ?_
  refine zw_istore_n dX0_pairsOfGrowth_3 rfl (by decide) rfl rfl ?_
  exact zw.sub [2, 1, 0] rfl K

set_option maxRecDepth 100000 in
set_option maxHeartbeats 4000000 in
theorem qX0_pairsOfGrowth_4 {q : Int32 → zw_H → Prop} {h : zw_H} {v1 v2 : Int32} (K : (((15 : Int32) ≤ v2 → q v1 h) ∧ (¬ (15 : Int32) ≤ v2 → (∃ j1 : Nat, v2 = nI j1 ∧ j1 < 15 ∧ (((h.1 27 7) ≤ (zw_great j1) → kwI 0 mX0_pairsOfGrowth q 4 [(0, .ref 27), (1, .int v1), (2, .int (v2 + (1 : Int32)))] [] h) ∧ (¬ (h.1 27 7) ≤ (zw_great j1) → (∃ j2 : Nat, v2 = nI j2 ∧ j2 < 15 ∧ (∃ j3 : Nat, (zw_small j2) = nI j3 ∧ j3 < 6 ∧ (∃ j4 : Nat, v2 = nI j4 ∧ j4 < 15 ∧ (∃ j5 : Nat, (zw_great j4) = nI j5 ∧ j5 < 6 ∧ ((¬ (h.1 33 j3) = (h.1 33 j5) → kwI 0 mX0_pairsOfGrowth q 4 [(0, .ref 27), (1, .int v1), (2, .int (v2 + (1 : Int32)))] [] h) ∧ ((h.1 33 j3) = (h.1 33 j5) → kwI 0 mX0_pairsOfGrowth q 4 [(0, .ref 27), (1, .int (v1 ||| ((1 : Int32) <<< (v2 &&& 31)))), (2, .int (v2 + (1 : Int32)))] [] h)))))))))))) : kwI 0 mX0_pairsOfGrowth q 4 [(0, .ref 27), (1, .int v1), (2, .int v2)] [] h := by
  refine zw_iload_n 2 dX0_pairsOfGrowth_4 rfl rfl rfl ?_
  refine zw_bipush (v := (15 : Int32)) dX0_pairsOfGrowth_5 (by decide) rfl ?_
  refine zw_icmp_ge (tg := 57) dX0_pairsOfGrowth_7 (by decide) rfl (fun c => ?_) (fun c => ?_)
  · have K := K.1 c
    refine zw_iload_n 1 dX0_pairsOfGrowth_57 rfl rfl rfl ?_
    exact zw_ireturn (ty := .int) dX0_pairsOfGrowth_58 rfl rfl (Nat.le_refl 0) (Nat.le_refl 0) ⟨_, rfl, rfl, K⟩
  · have K := K.2 c
    refine zw_getG g_X0_79 dX0_pairsOfGrowth_10 rfl ?_
    refine zw_iload_n 2 dX0_pairsOfGrowth_13 rfl rfl rfl ?_
    obtain ⟨j1, hj1, hn1, K⟩ := K
    refine zw_ialdG j1 dX0_pairsOfGrowth_14 ⟨hj1, hn1⟩ rfl ?_
    refine zw_aload_n 0 dX0_pairsOfGrowth_15 rfl rfl rfl ?_
    refine zw_getI f_X0_38 dX0_pairsOfGrowth_16 zk_27 rfl rfl ?_
    refine zw_icmp_ge (tg := 51) dX0_pairsOfGrowth_19 (by decide) rfl (fun c => ?_) (fun c => ?_)
    · have K := K.1 c
      refine zw_iinc (v := (v2 + (1 : Int32))) 2 dX0_pairsOfGrowth_51 rfl rfl (by decide) rfl rfl ?_
      refine zw_goto (np := 4) dX0_pairsOfGrowth_54 (by decide) ?_
      exact zw.sub [1, 2, 0] rfl K
    · have K := K.2 c
      refine zw_aload_n 0 dX0_pairsOfGrowth_22 rfl rfl rfl ?_
      refine zw_getR f_X0_28 dX0_pairsOfGrowth_23 zk_27 rfl rfl ?_
      refine zw_getS g_X0_82 dX0_pairsOfGrowth_26 rfl ?_
      refine zw_iload_n 2 dX0_pairsOfGrowth_29 rfl rfl rfl ?_
      obtain ⟨j2, hj2, hn2, K⟩ := K
      refine zw_ialdS j2 dX0_pairsOfGrowth_30 ⟨hj2, hn2⟩ rfl ?_
      obtain ⟨j3, hj3, hn3, K⟩ := K
      refine zw_iald j3 dX0_pairsOfGrowth_31 zk_33 ⟨hj3, hn3⟩ (by decide) rfl ?_
      refine zw_aload_n 0 dX0_pairsOfGrowth_32 rfl rfl rfl ?_
      refine zw_getR f_X0_28 dX0_pairsOfGrowth_33 zk_27 rfl rfl ?_
      refine zw_getG g_X0_79 dX0_pairsOfGrowth_36 rfl ?_
      refine zw_iload_n 2 dX0_pairsOfGrowth_39 rfl rfl rfl ?_
      obtain ⟨j4, hj4, hn4, K⟩ := K
      refine zw_ialdG j4 dX0_pairsOfGrowth_40 ⟨hj4, hn4⟩ rfl ?_
      obtain ⟨j5, hj5, hn5, K⟩ := K
      refine zw_iald j5 dX0_pairsOfGrowth_41 zk_33 ⟨hj5, hn5⟩ (by decide) rfl ?_
      refine zw_icmp_ne (tg := 51) dX0_pairsOfGrowth_42 (by decide) rfl (fun c => ?_) (fun c => ?_)
      · have K := K.1 c
        refine zw_iinc (v := (v2 + (1 : Int32))) 2 dX0_pairsOfGrowth_51 rfl rfl (by decide) rfl rfl ?_
        refine zw_goto (np := 4) dX0_pairsOfGrowth_54 (by decide) ?_
        exact zw.sub [1, 2, 0] rfl K
      · have K := K.2 c
        refine zw_iload_n 1 dX0_pairsOfGrowth_45 rfl rfl rfl ?_
        refine zw_iconst (v := (1 : Int32)) dX0_pairsOfGrowth_46 (by decide) rfl ?_
        refine zw_iload_n 2 dX0_pairsOfGrowth_47 rfl rfl rfl ?_
        refine zw_ishl dX0_pairsOfGrowth_48 rfl ?_
        refine zw_ior dX0_pairsOfGrowth_49 rfl ?_
        refine zw_istore_n dX0_pairsOfGrowth_50 rfl (by decide) rfl rfl ?_
        refine zw_iinc (v := (v2 + (1 : Int32))) 2 dX0_pairsOfGrowth_51 rfl rfl (by decide) rfl rfl ?_
        refine zw_goto (np := 4) dX0_pairsOfGrowth_54 (by decide) ?_
        exact zw.sub [2, 1, 0] rfl K

set_option maxRecDepth 100000 in
set_option maxHeartbeats 4000000 in
theorem qX0_greatestBefore_0 {q : Int32 → zw_H → Prop} {h : zw_H} {v1 : Int32} (K : kwI 1 mX0_greatestBefore q 4 [(0, .ref 27), (1, .int v1), (2, .int (0 : Int32)), (3, .int (0 : Int32))] [] h) : kwI 1 mX0_greatestBefore q 0 [(0, .ref 27), (1, .int v1)] [] h := by
  refine zw_iconst (v := (0 : Int32)) dX0_greatestBefore_0 (by decide) rfl ?_
  refine zw_istore_n dX0_greatestBefore_1 rfl (by decide) rfl rfl ?_
  refine zw_iconst (v := (0 : Int32)) dX0_greatestBefore_2 (by decide) rfl ?_
  refine zw_istore_n dX0_greatestBefore_3 rfl (by decide) rfl rfl ?_
  exact zw.sub [2, 3, 1, 0] rfl K

set_option maxRecDepth 100000 in
set_option maxHeartbeats 4000000 in
theorem qX0_greatestBefore_4 {q : Int32 → zw_H → Prop} {h : zw_H} {v1 v2 v3 : Int32} (K : ((v1 ≤ v3 → q v2 h) ∧ (¬ v1 ≤ v3 → (∃ j1 : Nat, v3 = nI j1 ∧ j1 < 6 ∧ kwI 1 mX0_greatestBefore q 4 [(0, .ref 27), (1, .int v1), (2, .int (zmax v2 (h.1 33 j1))), (3, .int (v3 + (1 : Int32)))] [] h)))) : kwI 1 mX0_greatestBefore q 4 [(0, .ref 27), (1, .int v1), (2, .int v2), (3, .int v3)] [] h := by
  refine zw_iload_n 3 dX0_greatestBefore_4 rfl rfl rfl ?_
  refine zw_iload_n 1 dX0_greatestBefore_5 rfl rfl rfl ?_
  refine zw_icmp_ge (tg := 26) dX0_greatestBefore_6 (by decide) rfl (fun c => ?_) (fun c => ?_)
  · have K := K.1 c
    refine zw_iload_n 2 dX0_greatestBefore_26 rfl rfl rfl ?_
    exact zw_ireturn (ty := .int) dX0_greatestBefore_27 rfl rfl (Nat.le_refl 0) (Nat.le_refl 0) ⟨_, rfl, rfl, K⟩
  · have K := K.2 c
    refine zw_iload_n 2 dX0_greatestBefore_9 rfl rfl rfl ?_
    refine zw_aload_n 0 dX0_greatestBefore_10 rfl rfl rfl ?_
    refine zw_getR f_X0_28 dX0_greatestBefore_11 zk_27 rfl rfl ?_
    refine zw_iload_n 3 dX0_greatestBefore_14 rfl rfl rfl ?_
    obtain ⟨j1, hj1, hn1, K⟩ := K
    refine zw_iald j1 dX0_greatestBefore_15 zk_33 ⟨hj1, hn1⟩ (by decide) rfl ?_
    refine zw_max k_X0_89 dX0_greatestBefore_16 (by decide) (Nat.le_of_ble_eq_true rfl) (Nat.le_refl 0) (Nat.le_refl 0) rfl ?_
    refine zw_istore_n dX0_greatestBefore_19 rfl (by decide) rfl rfl ?_
    refine zw_iinc (v := (v3 + (1 : Int32))) 3 dX0_greatestBefore_20 rfl rfl (by decide) rfl rfl ?_
    refine zw_goto (np := 4) dX0_greatestBefore_23 (by decide) ?_
    exact zw.sub [2, 3, 1, 0] rfl K

set_option maxRecDepth 100000 in
set_option maxHeartbeats 4000000 in
theorem qX0_advance_0 {q : Int32 → zw_H → Prop} {h : zw_H} (K : kwI 2 mX0_advance q 7 [(0, .ref 27), (1, .int ((h.1 27 7) - (1 : Int32)))] [] h) : kwI 2 mX0_advance q 0 [(0, .ref 27)] [] h := by
  refine zw_aload_n 0 dX0_advance_0 rfl rfl rfl ?_
  refine zw_getI f_X0_38 dX0_advance_1 zk_27 rfl rfl ?_
  refine zw_iconst (v := (1 : Int32)) dX0_advance_4 (by decide) rfl ?_
  refine zw_isub dX0_advance_5 rfl ?_
  refine zw_istore_n dX0_advance_6 rfl (by decide) rfl rfl ?_
  exact zw.sub [1, 0] rfl K

set_option maxRecDepth 100000 in
set_option maxHeartbeats 4000000 in
theorem qX0_advance_7 {q : Int32 → zw_H → Prop} {h : zw_H} {v1 : Int32} (K : ((v1 ≤ 0 → q (0 : Int32) h) ∧ (¬ v1 ≤ 0 → (∃ j1 : Nat, v1 = nI j1 ∧ j1 < 6 ∧ (∃ q2 : Int32 → zw_H → Prop, kcI 1 mX0_greatestBefore [.ref 27, .int v1] h q2 ∧ (∀ (x2 : Int32) (h2 : zw_H), q2 x2 h2 → ((x2 < (h.1 33 j1) → (∃ j3 : Nat, v1 = nI j3 ∧ j3 < 6 ∧ ∀ h4 : zw_H, h4 = zw_sI h2 33 j3 (0 : Int32) → kwI 2 mX0_advance q 7 [(0, .ref 27), (1, .int (v1 + (-1 : Int32)))] [] h4)) ∧ (¬ x2 < (h.1 33 j1) → (∃ j5 : Nat, v1 = nI j5 ∧ j5 < 6 ∧ (∃ j6 : Nat, v1 = nI j6 ∧ j6 < 6 ∧ ∀ h7 : zw_H, h7 = zw_sI h2 33 j6 ((h2.1 33 j5) + (1 : Int32)) → q (1 : Int32) h7)))))))))) : kwI 2 mX0_advance q 7 [(0, .ref 27), (1, .int v1)] [] h := by
  refine zw_iload_n 1 dX0_advance_7 rfl rfl rfl ?_
  refine zw_if_le (tg := 50) dX0_advance_8 (by decide) rfl (fun c => ?_) (fun c => ?_)
  · have K := K.1 c
    refine zw_iconst (v := (0 : Int32)) dX0_advance_50 (by decide) rfl ?_
    exact zw_ireturn (ty := .boolean) dX0_advance_51 rfl rfl (Nat.le_refl 0) (Nat.le_refl 0) ⟨_, rfl, rfl, K⟩
  · have K := K.2 c
    refine zw_aload_n 0 dX0_advance_11 rfl rfl rfl ?_
    refine zw_getR f_X0_28 dX0_advance_12 zk_27 rfl rfl ?_
    refine zw_iload_n 1 dX0_advance_15 rfl rfl rfl ?_
    obtain ⟨j1, hj1, hn1, K⟩ := K
    refine zw_iald j1 dX0_advance_16 zk_33 ⟨hj1, hn1⟩ (by decide) rfl ?_
    refine zw_aload_n 0 dX0_advance_17 rfl rfl rfl ?_
    refine zw_iload_n 1 dX0_advance_18 rfl rfl rfl ?_
    obtain ⟨q2, ct, K⟩ := K
    refine zw_callV (n := 1) (As := [.int v1]) (rest := [.int (h.1 33 j1)]) ct my_X0_greatestBefore rfl rfl k_X0_85 i_X0_greatestBefore s_X0_greatestBefore zk_27 rfl dX0_advance_19 (by decide) (Nat.le_of_ble_eq_true rfl) (Nat.le_refl 0) (Nat.le_refl 0) rfl (fun r s1 h2 hq => ?_)
    obtain ⟨x2, rfl, rfl, hq⟩ := hq
    have K := K x2 h2 hq
    refine zw.st (st' := [.int x2, .int (h.1 33 j1)]) rfl ?_
    refine zw_icmp_gt (tg := 37) dX0_advance_22 (by decide) rfl (fun c => ?_) (fun c => ?_)
    · have K := K.1 c
      refine zw_aload_n 0 dX0_advance_37 rfl rfl rfl ?_
      refine zw_getR f_X0_28 dX0_advance_38 zk_27 rfl rfl ?_
      refine zw_iload_n 1 dX0_advance_41 rfl rfl rfl ?_
      refine zw_iconst (v := (0 : Int32)) dX0_advance_42 (by decide) rfl ?_
      obtain ⟨j3, hj3, hn3, K⟩ := K
      refine zw_iast j3 dX0_advance_43 zk_33 ⟨hj3, hn3⟩ (by decide) rfl ?_
      generalize e4 : zw_sI h2 33 j3 (0 : Int32) = h4
      have K := K h4 e4.symm
      refine zw_iinc (v := (v1 + (-1 : Int32))) 1 dX0_advance_44 rfl rfl (by decide) rfl rfl ?_
      refine zw_goto (np := 7) dX0_advance_47 (by decide) ?_
      exact zw.sub [1, 0] rfl K
    · have K := K.2 c
      refine zw_aload_n 0 dX0_advance_25 rfl rfl rfl ?_
      refine zw_getR f_X0_28 dX0_advance_26 zk_27 rfl rfl ?_
      refine zw_iload_n 1 dX0_advance_29 rfl rfl rfl ?_
      refine zw_dup2 dX0_advance_30 rfl rfl rfl ?_
      obtain ⟨j5, hj5, hn5, K⟩ := K
      refine zw_iald j5 dX0_advance_31 zk_33 ⟨hj5, hn5⟩ (by decide) rfl ?_
      refine zw_iconst (v := (1 : Int32)) dX0_advance_32 (by decide) rfl ?_
      refine zw_iadd dX0_advance_33 rfl ?_
      obtain ⟨j6, hj6, hn6, K⟩ := K
      refine zw_iast j6 dX0_advance_34 zk_33 ⟨hj6, hn6⟩ (by decide) rfl ?_
      generalize e7 : zw_sI h2 33 j6 ((h2.1 33 j5) + (1 : Int32)) = h7
      have K := K h7 e7.symm
      refine zw_iconst (v := (1 : Int32)) dX0_advance_35 (by decide) rfl ?_
      exact zw_ireturn (ty := .boolean) dX0_advance_36 rfl rfl (Nat.le_refl 0) (Nat.le_refl 0) ⟨_, rfl, rfl, K⟩

set_option maxRecDepth 100000 in
set_option maxHeartbeats 4000000 in
theorem qX0_enter_0 {q : zw_H → Prop} {h : zw_H} {v1 : Int32} (K : (∃ q1 : Int32 → zw_H → Prop, kcI 0 mX0_pairsOfGrowth [.ref 27] h q1 ∧ (∀ (x1 : Int32) (h1 : zw_H), q1 x1 h1 → (∃ j2 : Nat, v1 = nI j2 ∧ j2 < 203 ∧ ∀ h3 : zw_H, h3 = zw_sI h1 28 j2 x1 → (∃ j4 : Nat, v1 = nI j4 ∧ j4 < 203 ∧ (∃ q5 : zw_H → Prop, kcV 2 mX3_spell [.ref 34, .int (h3.1 28 j4), .int (h3.1 27 7)] h3 q5 ∧ (∀ h5 : zw_H, q5 h5 → (∃ q6 : Int32 → zw_H → Prop, kcI 0 mX3_growthNumber [.ref 34] h5 q6 ∧ (∀ (x6 : Int32) (h6 : zw_H), q6 x6 h6 → (∃ j7 : Nat, v1 = nI j7 ∧ j7 < 203 ∧ ∀ h8 : zw_H, h8 = zw_sI h6 29 j7 x6 → (∃ q9 : Int32 → zw_H → Prop, kcI 1 mX3_sizeSet [.ref 34] h8 q9 ∧ (∀ (x9 : Int32) (h9 : zw_H), q9 x9 h9 → (∃ j10 : Nat, v1 = nI j10 ∧ j10 < 203 ∧ ∀ h11 : zw_H, h11 = zw_sI h9 30 j10 x9 → (∃ j12 : Nat, v1 = nI j12 ∧ j12 < 203 ∧ ∀ h13 : zw_H, h13 = zw_sI h11 31 j12 (h11.1 34 3) → (∃ q14 : Int32 → zw_H → Prop, kcI 1 mX3_firstCrossing [.ref 34] h13 q14 ∧ (∀ (x14 : Int32) (h14 : zw_H), q14 x14 h14 → ((x14 = (-9 : Int32) → (∃ j15 : Nat, v1 = nI j15 ∧ j15 < 203 ∧ ∀ h16 : zw_H, h16 = zw_sI h14 32 j15 (0 : Int32) → q h16)) ∧ (¬ x14 = (-9 : Int32) → (∃ j17 : Nat, v1 = nI j17 ∧ j17 < 203 ∧ ∀ h18 : zw_H, h18 = zw_sI h14 32 j17 (1 : Int32) → q h18))))))))))))))))))) : kwV 3 mX0_enter q 0 [(0, .ref 27), (1, .int v1)] [] h := by
  refine zw_aload_n 0 dX0_enter_0 rfl rfl rfl ?_
  refine zw_getR f_X0_9 dX0_enter_1 zk_27 rfl rfl ?_
  refine zw_iload_n 1 dX0_enter_4 rfl rfl rfl ?_
  refine zw_aload_n 0 dX0_enter_5 rfl rfl rfl ?_
  obtain ⟨q1, ct, K⟩ := K
  refine zw_callV (n := 0) (As := []) (rest := [.int v1, .ref 28]) ct my_X0_pairsOfGrowth rfl rfl k_X0_59 i_X0_pairsOfGrowth s_X0_pairsOfGrowth zk_27 rfl dX0_enter_6 (by decide) (Nat.le_of_ble_eq_true rfl) (Nat.le_refl 0) (Nat.le_refl 0) rfl (fun r s1 h1 hq => ?_)
  obtain ⟨x1, rfl, rfl, hq⟩ := hq
  have K := K x1 h1 hq
  refine zw.st (st' := [.int x1, .int v1, .ref 28]) rfl ?_
  obtain ⟨j2, hj2, hn2, K⟩ := K
  refine zw_iast j2 dX0_enter_9 zk_28 ⟨hj2, hn2⟩ (by decide) rfl ?_
  generalize e3 : zw_sI h1 28 j2 x1 = h3
  have K := K h3 e3.symm
  refine zw_aload_n 0 dX0_enter_10 rfl rfl rfl ?_
  refine zw_getR f_X0_34 dX0_enter_11 zk_27 rfl rfl ?_
  refine zw_aload_n 0 dX0_enter_14 rfl rfl rfl ?_
  refine zw_getR f_X0_9 dX0_enter_15 zk_27 rfl rfl ?_
  refine zw_iload_n 1 dX0_enter_18 rfl rfl rfl ?_
  obtain ⟨j4, hj4, hn4, K⟩ := K
  refine zw_iald j4 dX0_enter_19 zk_28 ⟨hj4, hn4⟩ (by decide) rfl ?_
  refine zw_aload_n 0 dX0_enter_20 rfl rfl rfl ?_
  refine zw_getI f_X0_38 dX0_enter_21 zk_27 rfl rfl ?_
  obtain ⟨q5, ct, K⟩ := K
  refine zw_callV (n := 2) (As := [.int (h3.1 28 j4), .int (h3.1 27 7)]) (rest := []) ct my_X3_spell rfl rfl k_X0_63 i_X3_spell s_X3_spell zk_34 rfl dX0_enter_24 (by decide) (Nat.le_of_ble_eq_true rfl) (Nat.le_refl 0) (Nat.le_refl 0) rfl (fun r s1 h5 hq => ?_)
  obtain ⟨rfl, rfl, hq⟩ := hq
  have K := K h5 hq
  refine zw.st (st' := []) rfl ?_
  refine zw_aload_n 0 dX0_enter_27 rfl rfl rfl ?_
  refine zw_getR f_X0_15 dX0_enter_28 zk_27 rfl rfl ?_
  refine zw_iload_n 1 dX0_enter_31 rfl rfl rfl ?_
  refine zw_aload_n 0 dX0_enter_32 rfl rfl rfl ?_
  refine zw_getR f_X0_34 dX0_enter_33 zk_27 rfl rfl ?_
  obtain ⟨q6, ct, K⟩ := K
  refine zw_callV (n := 0) (As := []) (rest := [.int v1, .ref 29]) ct my_X3_growthNumber rfl rfl k_X0_67 i_X3_growthNumber s_X3_growthNumber zk_34 rfl dX0_enter_36 (by decide) (Nat.le_of_ble_eq_true rfl) (Nat.le_refl 0) (Nat.le_refl 0) rfl (fun r s1 h6 hq => ?_)
  obtain ⟨x6, rfl, rfl, hq⟩ := hq
  have K := K x6 h6 hq
  refine zw.st (st' := [.int x6, .int v1, .ref 29]) rfl ?_
  obtain ⟨j7, hj7, hn7, K⟩ := K
  refine zw_iast j7 dX0_enter_39 zk_29 ⟨hj7, hn7⟩ (by decide) rfl ?_
  generalize e8 : zw_sI h6 29 j7 x6 = h8
  have K := K h8 e8.symm
  refine zw_aload_n 0 dX0_enter_40 rfl rfl rfl ?_
  refine zw_getR f_X0_18 dX0_enter_41 zk_27 rfl rfl ?_
  refine zw_iload_n 1 dX0_enter_44 rfl rfl rfl ?_
  refine zw_aload_n 0 dX0_enter_45 rfl rfl rfl ?_
  refine zw_getR f_X0_34 dX0_enter_46 zk_27 rfl rfl ?_
  obtain ⟨q9, ct, K⟩ := K
  refine zw_callV (n := 0) (As := []) (rest := [.int v1, .ref 30]) ct my_X3_sizeSet rfl rfl k_X0_70 i_X3_sizeSet s_X3_sizeSet zk_34 rfl dX0_enter_49 (by decide) (Nat.le_of_ble_eq_true rfl) (Nat.le_refl 0) (Nat.le_refl 0) rfl (fun r s1 h9 hq => ?_)
  obtain ⟨x9, rfl, rfl, hq⟩ := hq
  have K := K x9 h9 hq
  refine zw.st (st' := [.int x9, .int v1, .ref 30]) rfl ?_
  obtain ⟨j10, hj10, hn10, K⟩ := K
  refine zw_iast j10 dX0_enter_52 zk_30 ⟨hj10, hn10⟩ (by decide) rfl ?_
  generalize e11 : zw_sI h9 30 j10 x9 = h11
  have K := K h11 e11.symm
  refine zw_aload_n 0 dX0_enter_53 rfl rfl rfl ?_
  refine zw_getR f_X0_21 dX0_enter_54 zk_27 rfl rfl ?_
  refine zw_iload_n 1 dX0_enter_57 rfl rfl rfl ?_
  refine zw_aload_n 0 dX0_enter_58 rfl rfl rfl ?_
  refine zw_getR f_X0_34 dX0_enter_59 zk_27 rfl rfl ?_
  refine zw_getI f_X0_73 dX0_enter_62 zk_34 rfl rfl ?_
  obtain ⟨j12, hj12, hn12, K⟩ := K
  refine zw_iast j12 dX0_enter_65 zk_31 ⟨hj12, hn12⟩ (by decide) rfl ?_
  generalize e13 : zw_sI h11 31 j12 (h11.1 34 3) = h13
  have K := K h13 e13.symm
  refine zw_aload_n 0 dX0_enter_66 rfl rfl rfl ?_
  refine zw_getR f_X0_24 dX0_enter_67 zk_27 rfl rfl ?_
  refine zw_iload_n 1 dX0_enter_70 rfl rfl rfl ?_
  refine zw_aload_n 0 dX0_enter_71 rfl rfl rfl ?_
  refine zw_getR f_X0_34 dX0_enter_72 zk_27 rfl rfl ?_
  obtain ⟨q14, ct, K⟩ := K
  refine zw_callV (n := 0) (As := []) (rest := [.int v1, .ref 32]) ct my_X3_firstCrossing rfl rfl k_X0_76 i_X3_firstCrossing s_X3_firstCrossing zk_34 rfl dX0_enter_75 (by decide) (Nat.le_of_ble_eq_true rfl) (Nat.le_refl 0) (Nat.le_refl 0) rfl (fun r s1 h14 hq => ?_)
  obtain ⟨x14, rfl, rfl, hq⟩ := hq
  have K := K x14 h14 hq
  refine zw.st (st' := [.int x14, .int v1, .ref 32]) rfl ?_
  refine zw_bipush (v := (-9 : Int32)) dX0_enter_78 (by decide) rfl ?_
  refine zw_icmp_eq (tg := 87) dX0_enter_80 (by decide) rfl (fun c => ?_) (fun c => ?_)
  · have K := K.1 c
    refine zw_iconst (v := (0 : Int32)) dX0_enter_87 (by decide) rfl ?_
    obtain ⟨j15, hj15, hn15, K⟩ := K
    refine zw_zast j15 dX0_enter_88 zk_32 ⟨hj15, hn15⟩ (by decide) rfl rfl ?_
    generalize e16 : zw_sI h14 32 j15 (0 : Int32) = h16
    have K := K h16 e16.symm
    exact zw_return dX0_enter_89 rfl (Nat.le_refl 0) (Nat.le_refl 0) ⟨rfl, rfl, K⟩
  · have K := K.2 c
    refine zw_iconst (v := (1 : Int32)) dX0_enter_83 (by decide) rfl ?_
    refine zw_goto (np := 88) dX0_enter_84 (by decide) ?_
    obtain ⟨j17, hj17, hn17, K⟩ := K
    refine zw_zast j17 dX0_enter_88 zk_32 ⟨hj17, hn17⟩ (by decide) rfl rfl ?_
    generalize e18 : zw_sI h14 32 j17 (1 : Int32) = h18
    have K := K h18 e18.symm
    exact zw_return dX0_enter_89 rfl (Nat.le_refl 0) (Nat.le_refl 0) ⟨rfl, rfl, K⟩

set_option maxRecDepth 100000 in
set_option maxHeartbeats 4000000 in
theorem qX0_fill_0 {q : zw_H → Prop} {h : zw_H} {v1 : Int32} (K : ((¬ (h.1 27 7) = v1 → (∀ h1 : zw_H, h1 = zw_sI h 27 7 (zmin v1 (6 : Int32)) → kwV 4 mX0_fill q 21 [(0, .ref 27), (2, .int (0 : Int32))] [] h1)) ∧ ((h.1 27 7) = v1 → q h))) : kwV 4 mX0_fill q 0 [(0, .ref 27), (1, .int v1)] [] h := by
  refine zw_aload_n 0 dX0_fill_0 rfl rfl rfl ?_
  refine zw_getI f_X0_38 dX0_fill_1 zk_27 rfl rfl ?_
  refine zw_iload_n 1 dX0_fill_4 rfl rfl rfl ?_
  refine zw_icmp_ne (tg := 9) dX0_fill_5 (by decide) rfl (fun c => ?_) (fun c => ?_)
  · have K := K.1 c
    refine zw_aload_n 0 dX0_fill_9 rfl rfl rfl ?_
    refine zw_iload_n 1 dX0_fill_10 rfl rfl rfl ?_
    refine zw_bipush (v := (6 : Int32)) dX0_fill_11 (by decide) rfl ?_
    refine zw_min k_X0_42 dX0_fill_13 (by decide) (Nat.le_of_ble_eq_true rfl) (Nat.le_refl 0) (Nat.le_refl 0) rfl ?_
    refine zw_putI f_X0_38 cl_X0 rfl ⟨rfl, rfl⟩ dX0_fill_16 zk_27 rfl rfl ?_
    generalize e1 : zw_sI h 27 7 (zmin v1 (6 : Int32)) = h1
    have K := K h1 e1.symm
    refine zw_iconst (v := (0 : Int32)) dX0_fill_19 (by decide) rfl ?_
    refine zw_istore_n dX0_fill_20 rfl (by decide) rfl rfl ?_
    exact zw.sub [1, 0] rfl K
  · have K := K.2 c
    exact zw_return dX0_fill_8 rfl (Nat.le_refl 0) (Nat.le_refl 0) ⟨rfl, rfl, K⟩

set_option maxRecDepth 100000 in
set_option maxHeartbeats 4000000 in
theorem qX0_fill_21 {q : zw_H → Prop} {h : zw_H} {v2 : Int32} (K : (((6 : Int32) ≤ v2 → kwV 4 mX0_fill q 44 [(0, .ref 27), (2, .int (1 : Int32)), (3, .int (0 : Int32))] [] h) ∧ (¬ (6 : Int32) ≤ v2 → (∃ j1 : Nat, v2 = nI j1 ∧ j1 < 6 ∧ ∀ h2 : zw_H, h2 = zw_sI h 33 j1 (0 : Int32) → kwV 4 mX0_fill q 21 [(0, .ref 27), (2, .int (v2 + (1 : Int32)))] [] h2)))) : kwV 4 mX0_fill q 21 [(0, .ref 27), (2, .int v2)] [] h := by
  refine zw_iload_n 1 dX0_fill_21 rfl rfl rfl ?_
  refine zw_bipush (v := (6 : Int32)) dX0_fill_22 (by decide) rfl ?_
  refine zw_icmp_ge (tg := 40) dX0_fill_24 (by decide) rfl (fun c => ?_) (fun c => ?_)
  · have K := K.1 c
    refine zw_iconst (v := (1 : Int32)) dX0_fill_40 (by decide) rfl ?_
    refine zw_istore_n dX0_fill_41 rfl (by decide) rfl rfl ?_
    refine zw_iconst (v := (0 : Int32)) dX0_fill_42 (by decide) rfl ?_
    refine zw_istore_n dX0_fill_43 rfl (by decide) rfl rfl ?_
    exact zw.sub [2, 1, 0] rfl K
  · have K := K.2 c
    refine zw_aload_n 0 dX0_fill_27 rfl rfl rfl ?_
    refine zw_getR f_X0_28 dX0_fill_28 zk_27 rfl rfl ?_
    refine zw_iload_n 1 dX0_fill_31 rfl rfl rfl ?_
    refine zw_iconst (v := (0 : Int32)) dX0_fill_32 (by decide) rfl ?_
    obtain ⟨j1, hj1, hn1, K⟩ := K
    refine zw_iast j1 dX0_fill_33 zk_33 ⟨hj1, hn1⟩ (by decide) rfl ?_
    generalize e2 : zw_sI h 33 j1 (0 : Int32) = h2
    have K := K h2 e2.symm
    refine zw_iinc (v := (v2 + (1 : Int32))) 1 dX0_fill_34 rfl rfl (by decide) rfl rfl ?_
    refine zw_goto (np := 21) dX0_fill_37 (by decide) ?_
    exact zw.sub [1, 0] rfl K

set_option maxRecDepth 100000 in
set_option maxHeartbeats 4000000 in
theorem qX0_fill_44 {q : zw_H → Prop} {h : zw_H} {v2 v3 : Int32} (K : (((203 : Int32) ≤ v3 → q h) ∧ (¬ (203 : Int32) ≤ v3 → ((v2 = 0 → q h) ∧ (¬ v2 = 0 → (∃ q1 : zw_H → Prop, kcV 3 mX0_enter [.ref 27, .int v3] h q1 ∧ (∀ h1 : zw_H, q1 h1 → (∀ h2 : zw_H, h2 = zw_sI h1 27 8 (v3 + (1 : Int32)) → (∃ q3 : Int32 → zw_H → Prop, kcI 2 mX0_advance [.ref 27] h2 q3 ∧ (∀ (x3 : Int32) (h3 : zw_H), q3 x3 h3 → kwV 4 mX0_fill q 44 [(0, .ref 27), (2, .int x3), (3, .int (v3 + (1 : Int32)))] [] h3)))))))))) : kwV 4 mX0_fill q 44 [(0, .ref 27), (2, .int v2), (3, .int v3)] [] h := by
  refine zw_iload_n 2 dX0_fill_44 rfl rfl rfl ?_
  refine zw_sipush (v := (203 : Int32)) dX0_fill_45 (by decide) rfl ?_
  refine zw_icmp_ge (tg := 78) dX0_fill_48 (by decide) rfl (fun c => ?_) (fun c => ?_)
  · have K := K.1 c
    exact zw_return dX0_fill_78 rfl (Nat.le_refl 0) (Nat.le_refl 0) ⟨rfl, rfl, K⟩
  · have K := K.2 c
    refine zw_iload_n 1 dX0_fill_51 rfl rfl rfl ?_
    refine zw_if_eq (tg := 78) dX0_fill_52 (by decide) rfl (fun c => ?_) (fun c => ?_)
    · have K := K.1 c
      exact zw_return dX0_fill_78 rfl (Nat.le_refl 0) (Nat.le_refl 0) ⟨rfl, rfl, K⟩
    · have K := K.2 c
      refine zw_aload_n 0 dX0_fill_55 rfl rfl rfl ?_
      refine zw_iload_n 2 dX0_fill_56 rfl rfl rfl ?_
      obtain ⟨q1, ct, K⟩ := K
      refine zw_callV (n := 1) (As := [.int v3]) (rest := []) ct my_X0_enter rfl rfl k_X0_48 i_X0_enter s_X0_enter zk_27 rfl dX0_fill_57 (by decide) (Nat.le_of_ble_eq_true rfl) (Nat.le_refl 0) (Nat.le_refl 0) rfl (fun r s1 h1 hq => ?_)
      obtain ⟨rfl, rfl, hq⟩ := hq
      have K := K h1 hq
      refine zw.st (st' := []) rfl ?_
      refine zw_aload_n 0 dX0_fill_60 rfl rfl rfl ?_
      refine zw_iload_n 2 dX0_fill_61 rfl rfl rfl ?_
      refine zw_iconst (v := (1 : Int32)) dX0_fill_62 (by decide) rfl ?_
      refine zw_iadd dX0_fill_63 rfl ?_
      refine zw_putI f_X0_52 cl_X0 rfl ⟨rfl, rfl⟩ dX0_fill_64 zk_27 rfl rfl ?_
      generalize e2 : zw_sI h1 27 8 (v3 + (1 : Int32)) = h2
      have K := K h2 e2.symm
      refine zw_aload_n 0 dX0_fill_67 rfl rfl rfl ?_
      obtain ⟨q3, ct, K⟩ := K
      refine zw_callV (n := 0) (As := []) (rest := []) ct my_X0_advance rfl rfl k_X0_55 i_X0_advance s_X0_advance zk_27 rfl dX0_fill_68 (by decide) (Nat.le_of_ble_eq_true rfl) (Nat.le_refl 0) (Nat.le_refl 0) rfl (fun r s1 h3 hq => ?_)
      obtain ⟨x3, rfl, rfl, hq⟩ := hq
      have K := K x3 h3 hq
      refine zw.st (st' := [.int x3]) rfl ?_
      refine zw_istore_n dX0_fill_71 rfl (by decide) rfl rfl ?_
      refine zw_iinc (v := (v3 + (1 : Int32))) 2 dX0_fill_72 rfl rfl (by decide) rfl rfl ?_
      refine zw_goto (np := 44) dX0_fill_75 (by decide) ?_
      exact zw.sub [2, 1, 0] rfl K

set_option maxRecDepth 100000 in
set_option maxHeartbeats 4000000 in
theorem qX2_select_0 {q : zw_H → Prop} {h : zw_H} (K : (∀ h1 : zw_H, h1 = zw_sI h 37 5 (0 : Int32) → kwV 1 mX2_select q 7 [(0, .ref 37), (1, .ref 27), (2, .ref 1), (3, .int (0 : Int32))] [] h1)) : kwV 1 mX2_select q 0 [(0, .ref 37), (1, .ref 27), (2, .ref 1)] [] h := by
  refine zw_aload_n 0 dX2_select_0 rfl rfl rfl ?_
  refine zw_iconst (v := (0 : Int32)) dX2_select_1 (by decide) rfl ?_
  refine zw_putI f_X2_27 cl_X2 rfl ⟨rfl, rfl⟩ dX2_select_2 zk_37 rfl rfl ?_
  generalize e1 : zw_sI h 37 5 (0 : Int32) = h1
  have K := K h1 e1.symm
  refine zw_iconst (v := (0 : Int32)) dX2_select_5 (by decide) rfl ?_
  refine zw_istore_n dX2_select_6 rfl (by decide) rfl rfl ?_
  exact zw.sub [1, 2, 3, 0] rfl K

set_option maxRecDepth 100000 in
set_option maxHeartbeats 4000000 in
theorem qX2_select_7 {q : zw_H → Prop} {h : zw_H} {v3 : Int32} (K : (((6 : Int32) < v3 → kwV 1 mX2_select q 28 [(0, .ref 37), (1, .ref 27), (2, .ref 1), (3, .int (0 : Int32))] [] h) ∧ (¬ (6 : Int32) < v3 → (∃ j1 : Nat, v3 = nI j1 ∧ j1 < 7 ∧ ∀ h2 : zw_H, h2 = zw_sI h 41 j1 (0 : Int32) → kwV 1 mX2_select q 7 [(0, .ref 37), (1, .ref 27), (2, .ref 1), (3, .int (v3 + (1 : Int32)))] [] h2)))) : kwV 1 mX2_select q 7 [(0, .ref 37), (1, .ref 27), (2, .ref 1), (3, .int v3)] [] h := by
  refine zw_iload_n 3 dX2_select_7 rfl rfl rfl ?_
  refine zw_bipush (v := (6 : Int32)) dX2_select_8 (by decide) rfl ?_
  refine zw_icmp_gt (tg := 26) dX2_select_10 (by decide) rfl (fun c => ?_) (fun c => ?_)
  · have K := K.1 c
    refine zw_iconst (v := (0 : Int32)) dX2_select_26 (by decide) rfl ?_
    refine zw_istore_n dX2_select_27 rfl (by decide) rfl rfl ?_
    exact zw.sub [1, 2, 3, 0] rfl K
  · have K := K.2 c
    refine zw_aload_n 0 dX2_select_13 rfl rfl rfl ?_
    refine zw_getR f_X2_21 dX2_select_14 zk_37 rfl rfl ?_
    refine zw_iload_n 3 dX2_select_17 rfl rfl rfl ?_
    refine zw_iconst (v := (0 : Int32)) dX2_select_18 (by decide) rfl ?_
    obtain ⟨j1, hj1, hn1, K⟩ := K
    refine zw_iast j1 dX2_select_19 zk_41 ⟨hj1, hn1⟩ (by decide) rfl ?_
    generalize e2 : zw_sI h 41 j1 (0 : Int32) = h2
    have K := K h2 e2.symm
    refine zw_iinc (v := (v3 + (1 : Int32))) 3 dX2_select_20 rfl rfl (by decide) rfl rfl ?_
    refine zw_goto (np := 7) dX2_select_23 (by decide) ?_
    exact zw.sub [1, 2, 3, 0] rfl K

set_option maxRecDepth 100000 in
set_option maxHeartbeats 4000000 in
theorem qX2_select_28 {q : zw_H → Prop} {h : zw_H} {v3 : Int32} (K : (((h.1 27 8) ≤ v3 → q h) ∧ (¬ (h.1 27 8) ≤ v3 → (∃ j1 : Nat, v3 = nI j1 ∧ j1 < 203 ∧ (∃ j2 : Nat, v3 = nI j2 ∧ j2 < 203 ∧ (∃ j3 : Nat, v3 = nI j3 ∧ j3 < 203 ∧ (∃ j4 : Nat, v3 = nI j4 ∧ j4 < 203 ∧ (∃ q5 : Int32 → zw_H → Prop, kcI 0 mX5_reason [.ref 1, .int (h.1 28 j2), .int (h.1 30 j3), .int (h.1 31 j1), .int (h.1 32 j4)] h q5 ∧ (∀ (x5 : Int32) (h5 : zw_H), q5 x5 h5 → ((¬ x5 = 0 → kwV 1 mX2_select q 28 [(0, .ref 37), (1, .ref 27), (2, .ref 1), (3, .int (v3 + (1 : Int32)))] [] h5) ∧ (x5 = 0 → (∃ j6 : Nat, v3 = nI j6 ∧ j6 < 203 ∧ (∃ j7 : Nat, (h5.1 37 5) = nI j7 ∧ j7 < 203 ∧ ∀ h8 : zw_H, h8 = zw_sI h5 38 j7 (h5.1 28 j6) → (∃ j9 : Nat, v3 = nI j9 ∧ j9 < 203 ∧ (∃ j10 : Nat, (h8.1 37 5) = nI j10 ∧ j10 < 203 ∧ ∀ h11 : zw_H, h11 = zw_sI h8 39 j10 (h8.1 29 j9) → (∃ j12 : Nat, (h11.1 37 5) = nI j12 ∧ j12 < 203 ∧ ∀ h13 : zw_H, h13 = zw_sI h11 40 j12 (h.1 31 j1) → (∃ j14 : Nat, (h.1 31 j1) = nI j14 ∧ j14 < 7 ∧ (∃ j15 : Nat, (h.1 31 j1) = nI j15 ∧ j15 < 7 ∧ ∀ h16 : zw_H, h16 = zw_sI h13 41 j15 ((h13.1 41 j14) + (1 : Int32)) → (∀ h17 : zw_H, h17 = zw_sI h16 37 5 ((h16.1 37 5) + (1 : Int32)) → kwV 1 mX2_select q 28 [(0, .ref 37), (1, .ref 27), (2, .ref 1), (3, .int (v3 + (1 : Int32)))] [] h17))))))))))))))))))) : kwV 1 mX2_select q 28 [(0, .ref 37), (1, .ref 27), (2, .ref 1), (3, .int v3)] [] h := by
  refine zw_iload_n 3 dX2_select_28 rfl rfl rfl ?_
  refine zw_aload_n 1 dX2_select_29 rfl rfl rfl ?_
  refine zw_getI f_X2_31 dX2_select_30 zk_27 rfl rfl ?_
  refine zw_icmp_ge (tg := 143) dX2_select_33 (by decide) rfl (fun c => ?_) (fun c => ?_)
  · have K := K.1 c
    exact zw_return dX2_select_143 rfl (Nat.le_refl 0) (Nat.le_refl 0) ⟨rfl, rfl, K⟩
  · have K := K.2 c
    refine zw_aload_n 1 dX2_select_36 rfl rfl rfl ?_
    refine zw_getR f_X2_34 dX2_select_37 zk_27 rfl rfl ?_
    refine zw_iload_n 3 dX2_select_40 rfl rfl rfl ?_
    obtain ⟨j1, hj1, hn1, K⟩ := K
    refine zw_iald j1 dX2_select_41 zk_31 ⟨hj1, hn1⟩ (by decide) rfl ?_
    refine zw_istore dX2_select_42 (by decide) rfl rfl ?_
    refine zw_aload_n 3 dX2_select_44 rfl rfl rfl ?_
    refine zw_aload_n 2 dX2_select_45 rfl rfl rfl ?_
    refine zw_getR f_X2_35 dX2_select_46 zk_27 rfl rfl ?_
    refine zw_iload_n 4 dX2_select_49 rfl rfl rfl ?_
    obtain ⟨j2, hj2, hn2, K⟩ := K
    refine zw_iald j2 dX2_select_50 zk_28 ⟨hj2, hn2⟩ (by decide) rfl ?_
    refine zw_aload_n 2 dX2_select_51 rfl rfl rfl ?_
    refine zw_getR f_X2_36 dX2_select_52 zk_27 rfl rfl ?_
    refine zw_iload_n 4 dX2_select_55 rfl rfl rfl ?_
    obtain ⟨j3, hj3, hn3, K⟩ := K
    refine zw_iald j3 dX2_select_56 zk_30 ⟨hj3, hn3⟩ (by decide) rfl ?_
    refine zw_iload 0 dX2_select_57 rfl rfl ?_
    refine zw_aload_n 2 dX2_select_59 rfl rfl rfl ?_
    refine zw_getR f_X2_39 dX2_select_60 zk_27 rfl rfl ?_
    refine zw_iload_n 4 dX2_select_63 rfl rfl rfl ?_
    obtain ⟨j4, hj4, hn4, K⟩ := K
    refine zw_zald j4 dX2_select_64 zk_32 ⟨hj4, hn4⟩ (by decide) rfl ?_
    obtain ⟨q5, ct, K⟩ := K
    refine zw_callV (n := 4) (As := [.int (h.1 28 j2), .int (h.1 30 j3), .int (h.1 31 j1), .int (h.1 32 j4)]) (rest := []) ct my_X5_reason rfl rfl k_X2_43 i_X5_reason s_X5_reason zk_1 rfl dX2_select_65 (by decide) (Nat.le_of_ble_eq_true rfl) (Nat.le_refl 0) (Nat.le_refl 0) rfl (fun r s1 h5 hq => ?_)
    obtain ⟨x5, rfl, rfl, hq⟩ := hq
    have K := K x5 h5 hq
    refine zw.st (st' := [.int x5]) rfl ?_
    refine zw_istore dX2_select_68 (by decide) rfl rfl ?_
    refine zw_iload 0 dX2_select_70 rfl rfl ?_
    refine zw_if_ne (tg := 137) dX2_select_72 (by decide) rfl (fun c => ?_) (fun c => ?_)
    · have K := K.1 c
      refine zw_iinc (v := (v3 + (1 : Int32))) 5 dX2_select_137 rfl rfl (by decide) rfl rfl ?_
      refine zw_goto (np := 28) dX2_select_140 (by decide) ?_
      exact zw.sub [3, 4, 5, 0] rfl K
    · have K := K.2 c
      refine zw_aload_n 2 dX2_select_75 rfl rfl rfl ?_
      refine zw_getR f_X2_9 dX2_select_76 zk_37 rfl rfl ?_
      refine zw_aload_n 2 dX2_select_79 rfl rfl rfl ?_
      refine zw_getI f_X2_27 dX2_select_80 zk_37 rfl rfl ?_
      refine zw_aload_n 3 dX2_select_83 rfl rfl rfl ?_
      refine zw_getR f_X2_35 dX2_select_84 zk_27 rfl rfl ?_
      refine zw_iload_n 5 dX2_select_87 rfl rfl rfl ?_
      obtain ⟨j6, hj6, hn6, K⟩ := K
      refine zw_iald j6 dX2_select_88 zk_28 ⟨hj6, hn6⟩ (by decide) rfl ?_
      obtain ⟨j7, hj7, hn7, K⟩ := K
      refine zw_iast j7 dX2_select_89 zk_38 ⟨hj7, hn7⟩ (by decide) rfl ?_
      generalize e8 : zw_sI h5 38 j7 (h5.1 28 j6) = h8
      have K := K h8 e8.symm
      refine zw_aload_n 2 dX2_select_90 rfl rfl rfl ?_
      refine zw_getR f_X2_15 dX2_select_91 zk_37 rfl rfl ?_
      refine zw_aload_n 2 dX2_select_94 rfl rfl rfl ?_
      refine zw_getI f_X2_27 dX2_select_95 zk_37 rfl rfl ?_
      refine zw_aload_n 3 dX2_select_98 rfl rfl rfl ?_
      refine zw_getR f_X2_49 dX2_select_99 zk_27 rfl rfl ?_
      refine zw_iload_n 5 dX2_select_102 rfl rfl rfl ?_
      obtain ⟨j9, hj9, hn9, K⟩ := K
      refine zw_iald j9 dX2_select_103 zk_29 ⟨hj9, hn9⟩ (by decide) rfl ?_
      obtain ⟨j10, hj10, hn10, K⟩ := K
      refine zw_iast j10 dX2_select_104 zk_39 ⟨hj10, hn10⟩ (by decide) rfl ?_
      generalize e11 : zw_sI h8 39 j10 (h8.1 29 j9) = h11
      have K := K h11 e11.symm
      refine zw_aload_n 2 dX2_select_105 rfl rfl rfl ?_
      refine zw_getR f_X2_18 dX2_select_106 zk_37 rfl rfl ?_
      refine zw_aload_n 2 dX2_select_109 rfl rfl rfl ?_
      refine zw_getI f_X2_27 dX2_select_110 zk_37 rfl rfl ?_
      refine zw_iload 1 dX2_select_113 rfl rfl ?_
      obtain ⟨j12, hj12, hn12, K⟩ := K
      refine zw_iast j12 dX2_select_115 zk_40 ⟨hj12, hn12⟩ (by decide) rfl ?_
      generalize e13 : zw_sI h11 40 j12 (h.1 31 j1) = h13
      have K := K h13 e13.symm
      refine zw_aload_n 2 dX2_select_116 rfl rfl rfl ?_
      refine zw_getR f_X2_21 dX2_select_117 zk_37 rfl rfl ?_
      refine zw_iload 1 dX2_select_120 rfl rfl ?_
      refine zw_dup2 dX2_select_122 rfl rfl rfl ?_
      obtain ⟨j14, hj14, hn14, K⟩ := K
      refine zw_iald j14 dX2_select_123 zk_41 ⟨hj14, hn14⟩ (by decide) rfl ?_
      refine zw_iconst (v := (1 : Int32)) dX2_select_124 (by decide) rfl ?_
      refine zw_iadd dX2_select_125 rfl ?_
      obtain ⟨j15, hj15, hn15, K⟩ := K
      refine zw_iast j15 dX2_select_126 zk_41 ⟨hj15, hn15⟩ (by decide) rfl ?_
      generalize e16 : zw_sI h13 41 j15 ((h13.1 41 j14) + (1 : Int32)) = h16
      have K := K h16 e16.symm
      refine zw_aload_n 2 dX2_select_127 rfl rfl rfl ?_
      refine zw_dup dX2_select_128 rfl rfl ?_
      refine zw_getI f_X2_27 dX2_select_129 zk_37 rfl rfl ?_
      refine zw_iconst (v := (1 : Int32)) dX2_select_132 (by decide) rfl ?_
      refine zw_iadd dX2_select_133 rfl ?_
      refine zw_putI f_X2_27 cl_X2 rfl ⟨rfl, rfl⟩ dX2_select_134 zk_37 rfl rfl ?_
      generalize e17 : zw_sI h16 37 5 ((h16.1 37 5) + (1 : Int32)) = h17
      have K := K h17 e17.symm
      refine zw_iinc (v := (v3 + (1 : Int32))) 5 dX2_select_137 rfl rfl (by decide) rfl rfl ?_
      refine zw_goto (np := 28) dX2_select_140 (by decide) ?_
      exact zw.sub [3, 4, 5, 0] rfl K

set_option maxRecDepth 100000 in
set_option maxHeartbeats 4000000 in
theorem qX7_refresh_0 {q : zw_H → Prop} {h : zw_H} (K : (∃ q1 : zw_H → Prop, kcV 4 mX0_fill [.ref 27, .int (h.1 1 1)] h q1 ∧ (∀ h1 : zw_H, q1 h1 → (∃ q2 : zw_H → Prop, kcV 1 mX2_select [.ref 37, .ref 27, .ref 1] h1 q2 ∧ (∀ h2 : zw_H, q2 h2 → q h2))))) : kwV 5 mX7_refresh q 0 [(0, .ref 0)] [] h := by
  refine zw_aload_n 0 dX7_refresh_0 rfl rfl rfl ?_
  refine zw_getR f_X7_33 dX7_refresh_1 zk_0 rfl rfl ?_
  refine zw_aload_n 0 dX7_refresh_4 rfl rfl rfl ?_
  refine zw_getR f_X7_10 dX7_refresh_5 zk_0 rfl rfl ?_
  refine zw_getI f_X7_75 dX7_refresh_8 zk_1 rfl rfl ?_
  obtain ⟨q1, ct, K⟩ := K
  refine zw_callV (n := 1) (As := [.int (h.1 1 1)]) (rest := []) ct my_X0_fill rfl rfl k_X7_330 i_X0_fill s_X0_fill zk_27 rfl dX7_refresh_11 (by decide) (Nat.le_of_ble_eq_true rfl) (Nat.le_refl 0) (Nat.le_refl 0) rfl (fun r s1 h1 hq => ?_)
  obtain ⟨rfl, rfl, hq⟩ := hq
  have K := K h1 hq
  refine zw.st (st' := []) rfl ?_
  refine zw_aload_n 0 dX7_refresh_14 rfl rfl rfl ?_
  refine zw_getR f_X7_40 dX7_refresh_15 zk_0 rfl rfl ?_
  refine zw_aload_n 0 dX7_refresh_18 rfl rfl rfl ?_
  refine zw_getR f_X7_33 dX7_refresh_19 zk_0 rfl rfl ?_
  refine zw_aload_n 0 dX7_refresh_22 rfl rfl rfl ?_
  refine zw_getR f_X7_10 dX7_refresh_23 zk_0 rfl rfl ?_
  obtain ⟨q2, ct, K⟩ := K
  refine zw_callV (n := 2) (As := [.ref 27, .ref 1]) (rest := []) ct my_X2_select rfl rfl k_X7_333 i_X2_select s_X2_select zk_37 rfl dX7_refresh_26 (by decide) (Nat.le_of_ble_eq_true rfl) (Nat.le_refl 0) (Nat.le_refl 0) rfl (fun r s1 h2 hq => ?_)
  obtain ⟨rfl, rfl, hq⟩ := hq
  have K := K h2 hq
  refine zw.st (st' := []) rfl ?_
  exact zw_return dX7_refresh_29 rfl (Nat.le_refl 0) (Nat.le_refl 0) ⟨rfl, rfl, K⟩

set_option maxRecDepth 100000 in
set_option maxHeartbeats 4000000 in
theorem k_X7_pairBit (h : zw_H) {i j : Nat} (hi : i < 6) (hj : j < 6) : kpI 0 mX7_pairBit [.int (nI i), .int (nI j)] h (nI (pbit i j)) := by
  refine kcI_of rfl pn_X7 (fun _ => Nat.le_of_ble_eq_true rfl) rfl ?_
  refine qX7_pairBit_0 ⟨fun c => ⟨fun c1 => ⟨fun c2 => ⟨?_, rfl⟩, fun c2 => absurd c1 c2⟩, fun c1 => ⟨fun c2 => absurd c2 c1, fun c2 => ⟨?_, rfl⟩⟩⟩, fun c => ⟨?_, rfl⟩⟩
  · have h1 := zne c
    have h2 := zle c1
    rw [pbit_1 j hj i hi (by omega), pbit, if_neg h1, if_neg (by omega)]
  · have h1 := zne c
    have h2 := znle c1
    rw [pbit_1 i hi j hj (by omega), pbit, if_neg h1, if_pos (by omega)]
  · rw [pbit, if_pos (zeq c)]
    rfl
theorem k_bitCount {h : zw_H} {x : Int32} : kpI 0 mJ6_bitCount_0f7a4 [.int x] h (bcF x) := by
  refine kcI_of rfl pn_J6 (fun _ => Nat.le_of_ble_eq_true rfl) rfl (qJ6_bitCount_0f7a4_0 ?_)
  exact ⟨rfl, rfl⟩
theorem k_X3_labelOfPartner {h : zw_H} {o la ma n g e : Nat} (ho : zSK[o]? = some (.inl (3, [some (some la), some (some ma), none, none]))) (hla : zSK[la]? = some (.inr (0, 6, fun _ => none))) (hma : zSK[ma]? = some (.inr (0, 6, fun _ => none))) (h1 : 1 ≤ n) (h2 : n ≤ 6) (hg : g < kN n) (he : e < n) (e3 : h.1 o 3 = nI (kb n (kt n g) e)) (el : ∀ f, f < e → h.1 la f = nI (ks n g f)) : kpI 1 mX3_labelOfPartner [.ref o, .int (nI (km n g)), .int (nI e)] h (nI (ks n g e)) := by
  have hm := km_lt h1 h2 hg
  refine kcI_of rfl pn_X3 (fun _ => Nat.le_of_ble_eq_true rfl) rfl (qX3_labelOfPartner_0 ho hla hma ?_)
  generalize hr : nI (ks n g e) = res
  have e0 : lbl n g e 0 (e - 0) = ks n g e := lbl_ks h1 h2 hg he
  refine lp_up (P := fun f => lbl n g e f (e - f) = ks n g e → kwI 1 mX3_labelOfPartner (fun x h' => x = res ∧ h' = h) 2 [(0, .ref o), (1, .int (nI (km n g))), (2, .int (nI e)), (3, .int (nI f))] [] h) (N := e) ?_ ?_ 0 (by omega) e0
  · intro q
    refine qX3_labelOfPartner_2 ho hla hma ⟨fun _ => ⟨?_, rfl⟩, fun c => absurd (nI_le (Nat.le_refl _) (by omega)) c⟩
    unfold lbl at q
    rw [fs_end (Nat.le_refl _)] at q
    rw [← hr, e3, ← q]
  · intro f hf ih q
    have hb := zset hm (show f < 6 by omega) (show e < 6 by omega) hf
    rw [km_bit h1 h2 hg hf (by omega), decide_eq_true he, Bool.true_and] at hb
    unfold lbl at q ih
    rw [fs_step hf] at q
    refine qX3_labelOfPartner_2 ho hla hma ⟨fun c => ?_, fun _ => ka (k_X7_pairBit h (by omega) (by omega)) ⟨fun c => ?_, fun c => ⟨f, rfl, by omega, ?_, rfl⟩⟩⟩
    · have := zle c
      omega
    · rw [nI_1]
      refine ih ?_
      rw [if_neg (by rw [hb.mp c]; decide)] at q
      exact q
    · rw [el f hf, ← hr, if_pos] at *
      · exact congrArg nI q
      · cases hx : decide (ks n g f = ks n g e) with
        | true => rfl
        | false => exact absurd (hb.mpr hx) c
theorem k_X3_spell {h : zw_H} {o la ma n g : Nat} (ho : zSK[o]? = some (.inl (3, [some (some la), some (some ma), none, none]))) (hla : zSK[la]? = some (.inr (0, 6, fun _ => none))) (hma : zSK[ma]? = some (.inr (0, 6, fun _ => none))) (dlm : la ≠ ma) (dol : o ≠ la) (dom : o ≠ ma) (h1 : 1 ≤ n) (h2 : n ≤ 6) (hg : g < kN n) : kcV 2 mX3_spell [.ref o, .int (nI (km n g)), .int (nI n)] h (fun h' => SP h' o la ma n g ∧ Fr (pSh o la ma) h h') := by
  refine kcV_of rfl pn_X3 (fun _ => Nat.le_of_ble_eq_true rfl) rfl (qX3_spell_0 ho hla hma (fun k1 e1 k2 e2 => ?_))
  have mn : zmin (nI n) 6 = nI n := by
    unfold zmin
    rw [if_neg]
    intro c
    have := zlt (a := 6) c
    omega
  rw [mn] at e1
  have po2 : pSh o la ma o 2 := Or.inr (Or.inr ⟨rfl, Or.inl rfl⟩)
  have po3 : pSh o la ma o 3 := Or.inr (Or.inr ⟨rfl, Or.inr rfl⟩)
  have F : Fr (pSh o la ma) h k2 := (Fr.rf.sI e1 po2).sI e2 po3
  generalize hQ : (fun (h' : zw_H) => SP h' o la ma n g ∧ Fr (pSh o la ma) h h') = Q
  refine lp_up (P := fun e => ∀ k, Fr (pSh o la ma) h k → k.1 o 2 = nI n → k.1 o 3 = nI (kb n (kt n g) e) → (∀ f, f < e → k.1 la f = nI (ks n g f)) → (∀ b, b < kb n (kt n g) e → k.1 ma b = nI (ke n (kt n g) b e)) → kwV 2 mX3_spell Q 17 [(0, .ref o), (1, .int (nI (km n g))), (3, .int (nI e))] [] k) (N := n) ?_ ?_ 0 (by omega) k2 F (by rw [e2, zw_sI_n (Or.inr (by decide)), e1, zw_sI_s]) (by rw [e2, zw_sI_s]; rfl) (fun _ h => absurd h (by omega)) (fun _ h => absurd h (by show ¬ _ < 0; omega))
  · intro k fr v2 v3 vl vm
    refine qX3_spell_17 ho hla hma ⟨fun _ => ?_, fun c => absurd (by rw [v2]; exact nI_le (Nat.le_refl _) (by omega)) c⟩
    rw [← hQ]
    exact ⟨⟨v2, v3, vl, vm⟩, fr⟩
  · intro e he ih k fr v2 v3 vl vm
    obtain ⟨g1, g2, g3⟩ := ks_grow h1 h2 hg he
    have hB := kB_le h1 h2 hg
    have hbe : kb n (kt n g) (e + 1) ≤ kB n g := kb_mono n (kt n g) (show e + 1 ≤ n by omega)
    have kbs : kb n (kt n g) (e + 1) = if ks n g e = kb n (kt n g) e then kb n (kt n g) e + 1 else kb n (kt n g) e := rfl
    have kes : ∀ b, ke n (kt n g) b (e + 1) = if ks n g e = b then ke n (kt n g) b e + 2 ^ e else ke n (kt n g) b e := fun b => rfl
    refine qX3_spell_17 ho hla hma ⟨fun c => ?_, fun _ => ka (k_X3_labelOfPartner ho hla hma h1 h2 hg he v3 vl) ⟨fun c => ⟨e, rfl, by omega, fun k3 e3 => ⟨_, rfl, by omega, _, rfl, by omega, fun k6 e6 => ?_⟩⟩, fun c => ⟨_, rfl, by omega, fun k8 e8 => fun k9 e9 => ⟨e, rfl, by omega, fun k11 e11 => ⟨_, rfl, by omega, _, rfl, by omega, fun k14 e14 => ?_⟩⟩⟩⟩⟩
    · rw [v2] at c
      have := zle c
      omega
    · rw [v3] at c
      have hne : ks n g e ≠ kb n (kt n g) e := fun z => c (by rw [z])
      rw [if_neg hne] at kbs
      rw [kbs] at ih
      rw [nI_1]
      have vo : k3.1 ma (ks n g e) = nI (ke n (kt n g) (ks n g e) e) := by
        rw [e3, zw_sI_n (Or.inl (Ne.symm dlm))]
        exact vm _ (by omega)
      rw [vo, zone (by omega), zor, ke_or] at e6
      refine ih k6 ((fr.sI e3 (Or.inl rfl)).sI e6 (Or.inr (Or.inl rfl))) ?_ ?_ (fun f hf => ?_) (fun b hb => ?_)
      · rw [e6, zw_sI_n (Or.inl dom), e3, zw_sI_n (Or.inl dol)]
        exact v2
      · rw [e6, zw_sI_n (Or.inl dom), e3, zw_sI_n (Or.inl dol)]
        exact v3
      · rw [e6, zw_sI_n (Or.inl dlm)]
        by_cases hx : f = e
        · rw [hx, e3, zw_sI_s]
        · rw [e3, zw_sI_n (Or.inr hx)]
          exact vl f (by omega)
      · rw [kes]
        by_cases hx : b = ks n g e
        · subst hx
          rw [e6, zw_sI_s, if_pos rfl]
        · rw [e6, zw_sI_n (Or.inr hx), e3, zw_sI_n (Or.inl (Ne.symm dlm)), if_neg (Ne.symm hx)]
          exact vm b hb
    · rw [v3] at c
      have heq : ks n g e = kb n (kt n g) e := zeq c
      rw [if_pos heq] at kbs
      rw [kbs] at ih
      rw [nI_1]
      have no : ke n (kt n g) (ks n g e) e = 0 := ke_no (fun f hf z => by
        have : ks n g f < kb n (kt n g) e := ks_kb h1 h2 hg (by omega) hf
        have z : ks n g f = ks n g e := z
        omega)
      have vo3 : k8.1 o 3 = nI (kb n (kt n g) e) := by
        rw [e8, zw_sI_n (Or.inl dom)]
        exact v3
      rw [vo3, nI_1] at e9
      have vo : k11.1 ma (ks n g e) = nI 0 := by
        rw [e11, zw_sI_n (Or.inl (Ne.symm dlm)), e9, zw_sI_n (Or.inl (Ne.symm dom)), e8, zw_sI_s]
        rfl
      rw [vo, zone (by omega), zor, Nat.zero_or] at e14
      refine ih k14 ((((fr.sI e8 (Or.inr (Or.inl rfl))).sI e9 po3).sI e11 (Or.inl rfl)).sI e14 (Or.inr (Or.inl rfl))) ?_ ?_ (fun f hf => ?_) (fun b hb => ?_)
      · rw [e14, zw_sI_n (Or.inl dom), e11, zw_sI_n (Or.inl dol), e9, zw_sI_n (Or.inr (by decide)), e8, zw_sI_n (Or.inl dom)]
        exact v2
      · rw [e14, zw_sI_n (Or.inl dom), e11, zw_sI_n (Or.inl dol), e9, zw_sI_s]
      · rw [e14, zw_sI_n (Or.inl dlm)]
        by_cases hx : f = e
        · rw [hx, e11, zw_sI_s]
        · rw [e11, zw_sI_n (Or.inr hx), e9, zw_sI_n (Or.inl (Ne.symm dol)), e8, zw_sI_n (Or.inl dlm)]
          exact vl f (by omega)
      · rw [kes]
        by_cases hx : b = ks n g e
        · subst hx
          rw [e14, zw_sI_s, if_pos rfl, no, Nat.zero_add]
        · rw [e14, zw_sI_n (Or.inr hx), e11, zw_sI_n (Or.inl (Ne.symm dlm)), e9, zw_sI_n (Or.inl (Ne.symm dom)), e8, zw_sI_n (Or.inr hx), if_neg (Ne.symm hx)]
          exact vm b (by omega)
theorem k_bc {h : zw_H} {m : Nat} (hm : m < 32768) : kpI 0 mJ6_bitCount_0f7a4 [.int (nI m)] h (nI (pop m 15)) := by
  have := k_bitCount (h := h) (x := nI m)
  rw [bcF_eq hm] at this
  exact this
theorem k_bcE {h : zw_H} {n g b : Nat} (h1 : 1 ≤ n) (h2 : n ≤ 6) (hg : g < kN n) (hb : b < 6) : kpI 0 mJ6_bitCount_0f7a4 [.int (nI (kE n g b))] h (nI (kz n g b)) := by
  obtain ⟨k1, k2, k3⟩ := kE_tab h1 h2 hg hb
  rw [← k2]
  exact k_bc (by omega)
section SK
variable {h : zw_H} {o la ma n g : Nat}
theorem k_X3_growthNumber (ho : zSK[o]? = some (.inl (3, [some (some la), some (some ma), none, none]))) (hla : zSK[la]? = some (.inr (0, 6, fun _ => none))) (hma : zSK[ma]? = some (.inr (0, 6, fun _ => none))) (h1 : 1 ≤ n) (h2 : n ≤ 6) (hg : g < kN n) (S : SP h o la ma n g) : kpI 0 mX3_growthNumber [.ref o] h (nI (kt n g)) := by
  refine kcI_of rfl pn_X3 (fun _ => Nat.le_of_ble_eq_true rfl) rfl (qX3_growthNumber_0 ho hla hma ?_)
  have hk : gnF n (kt n g) n = kt n g := of_decide_eq_true (k6_all gn_tab h1 h2 hg)
  refine lp_up (P := fun e => kwI 0 mX3_growthNumber (fun x h' => x = nI (kt n g) ∧ h' = h) 4 [(0, .ref o), (1, .int (nI (gnF n (kt n g) e))), (2, .int (nI e))] [] h) (N := n) ?_ ?_ 0 (by omega)
  · refine qX3_growthNumber_4 ho hla hma ⟨fun _ => ⟨by rw [hk], rfl⟩, fun c => absurd (by rw [S.1]; exact nI_le (Nat.le_refl _) (by omega)) c⟩
  · intro e he ih
    refine qX3_growthNumber_4 ho hla hma ⟨fun c => ?_, fun _ => ⟨e, rfl, by omega, ?_⟩⟩
    · rw [S.1] at c
      have := zle c
      omega
    · rw [S.2.2.1 e he, show (6 : Int32) = nI 6 from rfl, pk_mul, nI_add, nI_1]
      exact ih
theorem k_X3_sizeSet (ho : zSK[o]? = some (.inl (3, [some (some la), some (some ma), none, none]))) (hla : zSK[la]? = some (.inr (0, 6, fun _ => none))) (hma : zSK[ma]? = some (.inr (0, 6, fun _ => none))) (h1 : 1 ≤ n) (h2 : n ≤ 6) (hg : g < kN n) (S : SP h o la ma n g) : kpI 1 mX3_sizeSet [.ref o] h (nI (szs n g)) := by
  have hB := kB_le h1 h2 hg
  refine kcI_of rfl pn_X3 (fun _ => Nat.le_of_ble_eq_true rfl) rfl (qX3_sizeSet_0 ho hla hma ?_)
  generalize hr : nI (szs n g) = res
  refine lp_up (P := fun b => kwI 1 mX3_sizeSet (fun x h' => x = res ∧ h' = h) 4 [(0, .ref o), (1, .int (nI (szF n g b))), (2, .int (nI b))] [] h) (N := kB n g) ?_ ?_ 0 (by omega)
  · exact qX3_sizeSet_4 ho hla hma ⟨fun _ => ⟨hr, rfl⟩, fun c => absurd (by rw [S.2.1]; exact nI_le (Nat.le_refl _) (by omega)) c⟩
  · intro b hb ih
    have hk := kz_le n g b
    refine qX3_sizeSet_4 ho hla hma ⟨fun c => ?_, fun _ => ⟨b, rfl, by omega, ?_⟩⟩
    · rw [S.2.1] at c
      have := zle c
      omega
    · rw [S.2.2.2 b hb]
      refine ka (k_bcE h1 h2 hg (by omega)) ?_
      rw [zone (by omega), zor, nI_1]
      exact ih
theorem k_X3_areCrossing {p q : Nat} (h1 : 1 ≤ n) (h2 : n ≤ 6) (hg : g < kN n) (hp : p < 6) (hq : q < 6) : kpI 0 mX3_areCrossing [.int (nI (kE n g p)), .int (nI (kE n g q))] h (bI (kx n g p q = true)) := by
  obtain ⟨a1, a2, a3⟩ := kE_tab h1 h2 hg hp
  obtain ⟨b1, b2, b3⟩ := kE_tab h1 h2 hg hq
  refine kcI_of rfl pn_X3 (fun _ => Nat.le_of_ble_eq_true rfl) rfl (qX3_areCrossing_0 ?_)
  generalize hr : bI (kx n g p q = true) = res
  refine lp_up (P := fun e => kwI 0 mX3_areCrossing (fun x h' => x = res ∧ h' = h) 7 [(0, .int (nI (kE n g p))), (1, .int (nI (kE n g q))), (2, .int (nI (kc n (kt n g) p q (min e n)).1)), (3, .int (nI (kc n (kt n g) p q (min e n)).2)), (4, .int (nI e))] [] h) (N := 6) ?_ ?_ 0 (by omega)
  · rw [Nat.min_eq_right h2]
    have hle := kc_1 n (kt n g) p q n
    refine qX3_areCrossing_7 ⟨fun _ => ⟨fun c => ⟨?_, rfl⟩, fun c => ⟨?_, rfl⟩⟩, fun c => absurd (by decide) c⟩
    · have := zlt (b := 4) c
      rw [← hr, bI_f]
      simp only [kx, decide_eq_true_eq]
      omega
    · have := znlt (b := 4) c
      rw [← hr, bI_t]
      simp only [kx, decide_eq_true_eq]
      omega
  · intro e he ih
    have ba := zbit0 (m := kE n g p) (k := e) (by omega) (by omega)
    have bb := zbit0 (m := kE n g q) (k := e) (by omega) (by omega)
    rw [a3 e he] at ba
    rw [b3 e he] at bb
    have hs2 := kc_2 n (kt n g) p q (min e n)
    have e1 : min (e + 1) n = if e < n then min e n + 1 else min e n := by
      split <;> omega
    have mn : e < n → min e n = e := fun z => by omega
    rw [e1] at ih
    -- neither block
    have stay : ¬ (e < n ∧ ks n g e = p) → ¬ (e < n ∧ ks n g e = q) → kwI 0 mX3_areCrossing (fun x h' => x = res ∧ h' = h) 7 [(0, .int (nI (kE n g p))), (1, .int (nI (kE n g q))), (2, .int (nI (kc n (kt n g) p q (min e n)).1)), (3, .int (nI (kc n (kt n g) p q (min e n)).2)), (4, .int (nI e + 1))] [] h := fun n1 n2 => by
      rw [nI_1]
      by_cases hx : e < n
      · rw [if_pos hx, kc, if_neg, if_neg] at ih
        · exact ih
        · intro z; rw [mn hx] at z; exact n2 ⟨hx, z⟩
        · intro z; rw [mn hx] at z; exact n1 ⟨hx, z⟩
      · rw [if_neg hx] at ih
        exact ih
    refine qX3_areCrossing_7 ⟨fun c => ?_, fun _ => ⟨fun c => ⟨fun c2 => ⟨fun _ => ?_, fun z => absurd rfl z⟩, fun c2 => ⟨fun c3 => ?_, fun c3 => ?_⟩⟩, fun c => ⟨fun c3 => ?_, fun c3 => ?_⟩⟩⟩
    · have := zle (a := 6) c
      omega
    · refine stay (fun z => ?_) (fun z => ?_)
      · have := ba.mp c
        simp [z.1, z.2] at this
      · have := bb.mp c2
        simp [z.1, z.2] at this
    · have n1 := ba.mp c
      have n2 : e < n ∧ ks n g e = q := Classical.byContradiction (fun z => c2 (bb.mpr (by
        by_cases hx : e < n <;> by_cases hy : ks n g e = q <;> simp_all)))
      have n3 : ¬ ks n g e = p := fun z => by simp [n2.1, z] at n1
      have c4 : (kc n (kt n g) p q (min e n)).2 = 2 := (zeq (a := 2) c3).symm
      rw [if_pos n2.1, kc, if_neg (by rw [mn n2.1]; exact n3), if_pos (by rw [mn n2.1]; exact n2.2), if_pos c4] at ih
      rw [nI_1]
      exact ih
    · have n1 := ba.mp c
      have n2 : e < n ∧ ks n g e = q := Classical.byContradiction (fun z => c2 (bb.mpr (by
        by_cases hx : e < n <;> by_cases hy : ks n g e = q <;> simp_all)))
      have n3 : ¬ ks n g e = p := fun z => by simp [n2.1, z] at n1
      have c4 : ¬ (kc n (kt n g) p q (min e n)).2 = 2 := fun z => c3 (by rw [z]; rfl)
      rw [if_pos n2.1, kc, if_neg (by rw [mn n2.1]; exact n3), if_pos (by rw [mn n2.1]; exact n2.2), if_neg c4] at ih
      rw [nI_1, nI_1]
      exact ih
    · have n1 : e < n ∧ ks n g e = p := Classical.byContradiction (fun z => c (ba.mpr (by
        by_cases hx : e < n <;> by_cases hy : ks n g e = p <;> simp_all)))
      have c4 : (kc n (kt n g) p q (min e n)).2 = 1 := (zeq (a := 1) c3).symm
      rw [if_pos n1.1, kc, if_pos (by rw [mn n1.1]; exact n1.2), if_pos c4] at ih
      rw [nI_1]
      exact ih
    · have n1 : e < n ∧ ks n g e = p := Classical.byContradiction (fun z => c (ba.mpr (by
        by_cases hx : e < n <;> by_cases hy : ks n g e = p <;> simp_all)))
      have c4 : ¬ (kc n (kt n g) p q (min e n)).2 = 1 := fun z => c3 (by rw [z]; rfl)
      rw [if_pos n1.1, kc, if_pos (by rw [mn n1.1]; exact n1.2), if_neg c4] at ih
      rw [nI_1, nI_1]
      exact ih
theorem k_X3_firstCrossing (ho : zSK[o]? = some (.inl (3, [some (some la), some (some ma), none, none]))) (hla : zSK[la]? = some (.inr (0, 6, fun _ => none))) (hma : zSK[ma]? = some (.inr (0, 6, fun _ => none))) (h1 : 1 ≤ n) (h2 : n ≤ 6) (hg : g < kN n) (S : SP h o la ma n g) : kpI 1 mX3_firstCrossing [.ref o] h (enc2 (kF n g)) := by
  have hB := kB_le h1 h2 hg
  refine kcI_of rfl pn_X3 (fun _ => Nat.le_of_ble_eq_true rfl) rfl (qX3_firstCrossing_0 ho hla hma ?_)
  refine lp_up (P := fun p => kwI 1 mX3_firstCrossing (fun x h' => x = enc2 (fs2 (kx n g) (kB n g) p (kB n g - p)) ∧ h' = h) 2 [(0, .ref o), (1, .int (nI p))] [] h) (N := kB n g) ?_ ?_ 0 (by omega)
  · exact qX3_firstCrossing_2 ho hla hma ⟨fun _ => ⟨by rw [fs2_end (Nat.le_refl _)]; rfl, rfl⟩, fun c => absurd (by rw [S.2.1]; exact nI_le (Nat.le_refl _) (by omega)) c⟩
  · intro p hp ih
    refine qX3_firstCrossing_2 ho hla hma ⟨fun c => ?_, fun _ => ?_⟩
    · rw [S.2.1] at c
      have := zle c
      omega
    · rw [fs2_step hp, nI_1]
      refine lp_up (P := fun q => p < q → kwI 1 mX3_firstCrossing (fun x h' => x = enc2 (match fs (kx n g p) q (kB n g - q) with | some q => some (p, q) | none => fs2 (kx n g) (kB n g) (p + 1) (kB n g - (p + 1))) ∧ h' = h) 14 [(0, .ref o), (1, .int (nI p)), (2, .int (nI q))] [] h) (N := kB n g) ?_ ?_ (p + 1) (by omega) (by omega)
      · intro _
        rw [fs_end (Nat.le_refl _)]
        refine qX3_firstCrossing_14 ho hla hma ⟨fun _ => ?_, fun c => absurd (by rw [S.2.1]; exact nI_le (Nat.le_refl _) (by omega)) c⟩
        rw [nI_1]
        exact ih
      · intro q hq ih2 hpq
        have ih2 := ih2 (by omega)
        refine qX3_firstCrossing_14 ho hla hma ⟨fun c => ?_, fun _ => ⟨p, rfl, by omega, q, rfl, by omega, ?_⟩⟩
        · rw [S.2.1] at c
          have := zle c
          omega
        rw [S.2.2.2 p (by omega), S.2.2.2 q hq]
        refine ka (k_X3_areCrossing h1 h2 hg (by omega) (by omega)) ⟨fun c => ?_, fun c => ⟨?_, rfl⟩⟩
        · rw [fs_step hq, if_neg (bI_0.mp c), nI_1]
          exact ih2
        · rw [fs_step hq, if_pos (bI_yes c), show (10 : Int32) = nI 10 from rfl, pk_mul, nI_add]
          rfl
end SK
theorem k_X5_reset {h : zw_H} {n : Nat} : kcV 0 mX5_reset [.ref 1, .int (nI n)] h (fun h' => SO h' 1 2 (s0 n) ∧ Fr (fun a _ => a = 1 ∨ a = 2) h h') := by
  refine kcV_of rfl pn_X5 (fun _ => Nat.le_of_ble_eq_true rfl) rfl (qX5_reset_0 ?_)
  refine lp_up (P := fun r => ∀ k, Fr (fun a _ => a = 1 ∨ a = 2) h k → (∀ r', r' < r → k.1 2 r' = -1) → kwV 0 mX5_reset (fun h' => SO h' 1 2 (s0 n) ∧ Fr (fun a _ => a = 1 ∨ a = 2) h h') 2 [(0, .ref 1), (1, .int (nI n)), (2, .int (nI r))] [] k) (N := 8) ?_ ?_ 0 (by omega) h Fr.rf (fun _ h => absurd h (by omega))
  · intro k fr inv
    refine qX5_reset_2 ⟨fun _ => fun k1 e1 k2 e2 k3 e3 k4 e4 k5 e5 k6 e6 => ?_, fun c => absurd (by decide) c⟩
    have f0 : Fr (fun a _ => a = 1) k k := Fr.rf
    have f6 : Fr (fun a _ => a = 1) k k6 := (((((f0.sI e1 rfl).sI e2 rfl).sI e3 rfl).sI e4 rfl).sI e5 rfl).sI e6 rfl
    refine ⟨⟨?_, ?_, ?_, ?_, ?_, ?_, fun r hr => ?_⟩, fr.tr (f6.mo (fun a b z => Or.inl z))⟩
    · rw [e6, zw_sI_n (Or.inr (by decide)), e5, zw_sI_n (Or.inr (by decide)), e4, zw_sI_n (Or.inr (by decide)), e3, zw_sI_n (Or.inr (by decide)), e2, zw_sI_n (Or.inr (by decide)), e1, zw_sI_s]; rfl
    · rw [e6, zw_sI_n (Or.inr (by decide)), e5, zw_sI_n (Or.inr (by decide)), e4, zw_sI_n (Or.inr (by decide)), e3, zw_sI_n (Or.inr (by decide)), e2, zw_sI_s]; rfl
    · rw [e6, zw_sI_n (Or.inr (by decide)), e5, zw_sI_n (Or.inr (by decide)), e4, zw_sI_n (Or.inr (by decide)), e3, zw_sI_s]; rfl
    · rw [e6, zw_sI_n (Or.inr (by decide)), e5, zw_sI_n (Or.inr (by decide)), e4, zw_sI_s]; rfl
    · rw [e6, zw_sI_n (Or.inr (by decide)), e5, zw_sI_s]; rfl
    · rw [e6, zw_sI_s]; rfl
    · rw [f6.1 2 r (by omega)]
      exact inv r hr
  · intro r hr ih k fr inv
    refine qX5_reset_2 ⟨fun c => ?_, fun _ => ⟨r, rfl, hr, fun k2 e2 => ?_⟩⟩
    · have := zle (a := 8) c
      omega
    · rw [nI_1]
      refine ih k2 (fr.sI e2 (Or.inr rfl)) (fun r' hr' => ?_)
      by_cases hx : r' = r
      · rw [hx, e2, zw_sI_s]
      · rw [e2, zw_sI_n (Or.inr hx)]
        exact inv r' (by omega)
theorem k_X0_pairsOfGrowth {h : zw_H} {n g : Nat} (h1 : 1 ≤ n) (h2 : n ≤ 6) (hg : g < kN n) (h7 : h.1 27 7 = nI n) (hw : ∀ e, e < n → h.1 33 e = nI (ks n g e)) : kpI 0 mX0_pairsOfGrowth [.ref 27] h (nI (km n g)) := by
  refine kcI_of rfl pn_X0 (fun _ => Nat.le_of_ble_eq_true rfl) rfl (qX0_pairsOfGrowth_0 ?_)
  rw [← pgF_km h1 h2 hg]
  generalize hr : nI (pgF n g 15) = res
  refine lp_up (P := fun p => kwI 0 mX0_pairsOfGrowth (fun x h' => x = res ∧ h' = h) 4 [(0, .ref 27), (1, .int (nI (pgF n g p))), (2, .int (nI p))] [] h) (N := 15) ?_ ?_ 0 (by omega)
  · exact qX0_pairsOfGrowth_4 ⟨fun _ => ⟨hr, rfl⟩, fun c => absurd (by decide) c⟩
  · intro p hp ih
    obtain ⟨s1, s2, i1, i2, i3⟩ := kIJ p hp
    rw [pgF] at ih
    refine qX0_pairsOfGrowth_4 ⟨fun c => ?_, fun _ => ⟨p, rfl, hp, fun c => ?_, fun c => ⟨p, rfl, hp, kI p, s1, by omega, p, rfl, hp, kJ p, s2, by omega, fun c2 => ?_, fun c2 => ?_⟩⟩⟩
    · have := zle (a := 15) c
      omega
    · rw [s2, h7] at c
      have := zle c
      rw [if_neg (by omega)] at ih
      rw [nI_1]
      exact ih
    · rw [s2, h7] at c
      have := znle c
      rw [hw _ (by omega), hw _ this] at c2
      have hne : ks n g (kI p) ≠ ks n g (kJ p) := fun z => c2 (by rw [z])
      rw [if_neg (fun z => hne z.2)] at ih
      rw [nI_1]
      exact ih
    · rw [s2, h7] at c
      have := znle c
      have k1 := ks_lt h1 h2 hg (show kI p < n by omega)
      have k2 := ks_lt h1 h2 hg this
      rw [hw _ (by omega), hw _ this] at c2
      rw [if_pos ⟨this, zeq c2⟩] at ih
      rw [zone (by omega), zor, nI_1]
      exact ih
theorem k_X0_greatestBefore {h : zw_H} {n g e : Nat} (h2 : n ≤ 6) (he : e ≤ n) (hw : ∀ f, f < e → h.1 33 f = nI (ks n g f)) : kpI 1 mX0_greatestBefore [.ref 27, .int (nI e)] h (nI (gM n g e)) := by
  refine kcI_of rfl pn_X0 (fun _ => Nat.le_of_ble_eq_true rfl) rfl (qX0_greatestBefore_0 ?_)
  generalize hr : nI (gM n g e) = res
  refine lp_up (P := fun f => kwI 1 mX0_greatestBefore (fun x h' => x = res ∧ h' = h) 4 [(0, .ref 27), (1, .int (nI e)), (2, .int (nI (gM n g f))), (3, .int (nI f))] [] h) (N := e) ?_ ?_ 0 (by omega)
  · exact qX0_greatestBefore_4 ⟨fun _ => ⟨hr, rfl⟩, fun c => absurd (nI_le (Nat.le_refl _) (by omega)) c⟩
  · intro f hf ih
    have g1 := gM_le n g f
    have g2 := ks_100 n g f
    refine qX0_greatestBefore_4 ⟨fun c => ?_, fun _ => ⟨f, rfl, by omega, ?_⟩⟩
    · have := zle c
      omega
    · rw [hw f hf, zmax_n (by omega) (by omega), nI_1]
      exact ih
theorem k_X0_advance {h : zw_H} {n g : Nat} (h1 : 1 ≤ n) (h2 : n ≤ 6) (hg : g < kN n) (h7 : h.1 27 7 = nI n) (hw : ∀ e, e < n → h.1 33 e = nI (ks n g e)) : kcI 2 mX0_advance [.ref 27] h (fun x h' => Fr (fun a _ => a = 33) h h' ∧ (g + 1 < kN n → x = 1 ∧ ∀ e, e < n → h'.1 33 e = nI (ks n (g + 1) e)) ∧ (g + 1 = kN n → x = 0)) := by
  refine kcI_of rfl pn_X0 (fun _ => Nat.le_of_ble_eq_true rfl) rfl (qX0_advance_0 ?_)
  generalize hQ : (fun (x : Int32) (h' : zw_H) => Fr (fun a _ => a = 33) h h' ∧ (g + 1 < kN n → x = 1 ∧ ∀ e, e < n → h'.1 33 e = nI (ks n (g + 1) e)) ∧ (g + 1 = kN n → x = 0)) = Q
  have down : ∀ e, e < n → kQ n (kt n g) (n - 1) = kQ n (kt n g) e → ∀ k, Fr (fun a _ => a = 33) h k → (∀ f, f ≤ e → k.1 33 f = nI (ks n g f)) → (∀ f, e < f → f < n → k.1 33 f = nI 0) → kwI 2 mX0_advance Q 7 [(0, .ref 27), (1, .int (nI e))] [] k := by
    intro e
    induction e with
    | zero =>
      intro _ eq k fr _ _
      refine qX0_advance_7 ⟨fun _ => ?_, fun c => absurd (by decide) c⟩
      rw [← hQ]
      refine ⟨fr, fun z => ?_, fun _ => rfl⟩
      have := (kt_step h1 h2 z).1
      rw [eq, kQ] at this
      omega
    | succ e ih =>
      intro he eq k fr low high
      rw [kQ] at eq
      have gk := gM_kb h1 h2 hg e (by omega)
      have g1 := gM_le n g (e + 1)
      have g2 := ks_100 n g (e + 1)
      have e1 : kd n (kt n g) (e + 1) = ks n g (e + 1) := rfl
      rw [e1] at eq
      refine qX0_advance_7 ⟨fun c => ?_, fun _ => ⟨e + 1, rfl, by omega, ka (k_X0_greatestBefore h2 (by omega) (fun f hf => low f (by omega))) ⟨fun c => ⟨e + 1, rfl, by omega, fun k2 e2 => ?_⟩, fun c => ⟨e + 1, rfl, by omega, e + 1, rfl, by omega, fun k2 e2 => ?_⟩⟩⟩⟩
      · have := zle (b := 0) c
        omega
      · rw [low (e + 1) (Nat.le_refl _)] at c
        have c' := zlt c
        rw [if_neg (by omega)] at eq
        rw [pk_m1]
        refine ih (by omega) eq k2 (fr.sI e2 rfl) (fun f hf => ?_) (fun f hf hf2 => ?_)
        · rw [e2, zw_sI_n (Or.inr (by omega))]
          exact low f (by omega)
        · by_cases hx : f = e + 1
          · rw [hx, e2, zw_sI_s]
            rfl
          · rw [e2, zw_sI_n (Or.inr hx)]
            exact high f (by omega) hf2
      · rw [low (e + 1) (Nat.le_refl _)] at c
        have c' := znlt c
        rw [if_pos (by omega)] at eq
        rw [low (e + 1) (Nat.le_refl _), nI_1] at e2
        rw [← hQ]
        refine ⟨fr.sI e2 rfl, fun z => ⟨rfl, fun f hf => ?_⟩, fun z => ?_⟩
        · have st := (kt_step h1 h2 z).2 f hf
          rw [eq] at st
          rw [st]
          by_cases hx : f < e + 1
          · rw [if_pos hx, e2, zw_sI_n (Or.inr (by omega))]
            exact low f (by omega)
          · rw [if_neg hx]
            by_cases hy : f = e + 1
            · rw [if_pos hy, hy, e2, zw_sI_s]
            · rw [if_neg hy, e2, zw_sI_n (Or.inr hy)]
              exact high f (by omega) hf
        · have := kt_last h1 h2 z
          omega
  have m1 : nI n - 1 = nI (n - 1) := by rw [show n = (n - 1) + 1 by omega, nI_pred]; rfl
  rw [h7, m1]
  exact down (n - 1) (by omega) rfl h Fr.rf (fun f hf => hw f (by omega)) (fun f h3 h4 => absurd h4 (by omega))
theorem k_X0_enter {h : zw_H} {n g : Nat} (h1 : 1 ≤ n) (h2 : n ≤ 6) (hg : g < kN n) (h7 : h.1 27 7 = nI n) (hw : ∀ e, e < n → h.1 33 e = nI (ks n g e)) : kcV 3 mX0_enter [.ref 27, .int (nI g)] h (fun h' => CE h' n g ∧ Fr (pE g) h h') := by
  have hN := (kN_le h1 h2).1
  have hB := kB_le h1 h2 hg
  refine kcV_of rfl pn_X0 (fun _ => Nat.le_of_ble_eq_true rfl) rfl (qX0_enter_0 (ka (k_X0_pairsOfGrowth h1 h2 hg h7 hw) ⟨g, rfl, by omega, fun k3 e3 => ⟨g, rfl, by omega, ?_⟩⟩))
  have v28 : k3.1 28 g = nI (km n g) := by rw [e3, zw_sI_s]
  have v27 : k3.1 27 7 = nI n := by rw [e3, zw_sI_n (Or.inl (by decide))]; exact h7
  have po : ∀ a, 28 ≤ a → a ≤ 32 → pE g a g := fun a x y => Or.inl ⟨x, y, rfl⟩
  have F3 : Fr (pE g) h k3 := Fr.rf.sI e3 (po _ (by omega) (by omega))
  rw [v28, v27]
  refine kaV (k_X3_spell zk_34 zk_35 zk_36 (by omega) (by omega) (by omega) h1 h2 hg) (fun k5 r5 => ?_)
  obtain ⟨S5, f5⟩ := r5
  have F5 : Fr (pE g) h k5 := F3.tr (f5.mo (fun a b z => Or.inr z))
  refine ka (k_X3_growthNumber zk_34 zk_35 zk_36 h1 h2 hg S5) ⟨g, rfl, by omega, fun k8 e8 => ?_⟩
  have mono : ∀ {k k' : zw_H} {a : Nat} {x : Int32}, 28 ≤ a → a ≤ 32 → k' = zw_sI k a g x → SP k 34 35 36 n g → SP k' 34 35 36 n g := by
    intro k k' a x x1 x2 e S
    have f : Fr (fun a' _ => a' = a) k k' := Fr.rf.sI e rfl
    exact ⟨by rw [f.1 _ _ (by omega)]; exact S.1, by rw [f.1 _ _ (by omega)]; exact S.2.1, fun e he => by rw [f.1 _ _ (by omega)]; exact S.2.2.1 e he, fun b hb => by rw [f.1 _ _ (by omega)]; exact S.2.2.2 b hb⟩
  have S8 := mono (by omega) (by omega) e8 S5
  refine ka (k_X3_sizeSet zk_34 zk_35 zk_36 h1 h2 hg S8) ⟨g, rfl, by omega, fun k11 e11 => ⟨g, rfl, by omega, fun k13 e13 => ?_⟩⟩
  have S11 := mono (by omega) (by omega) e11 S8
  have S13 := mono (by omega) (by omega) e13 S11
  rw [S11.2.1] at e13
  have F13 : Fr (pE g) h k13 := ((F5.sI e8 (po _ (by omega) (by omega))).sI e11 (po _ (by omega) (by omega))).sI e13 (po _ (by omega) (by omega))
  have e9 := enc2_9 (o := kF n g) (fun p q z => by
    have := kF_lt z
    omega)
  have fin : ∀ x, x = bI ((kF n g).isSome = true) → ∀ k, k = zw_sI k13 32 g x → CE k n g ∧ Fr (pE g) h k := fun x ex k ek => by
    refine ⟨⟨?_, ?_, ?_, ?_, ?_⟩, F13.sI ek (po _ (by omega) (by omega))⟩
    · rw [ek, zw_sI_n (Or.inl (by decide)), e13, zw_sI_n (Or.inl (by decide)), e11, zw_sI_n (Or.inl (by decide)), e8, zw_sI_n (Or.inl (by decide)), f5.1 28 g (by unfold pSh; omega)]
      exact v28
    · rw [ek, zw_sI_n (Or.inl (by decide)), e13, zw_sI_n (Or.inl (by decide)), e11, zw_sI_n (Or.inl (by decide)), e8, zw_sI_s]
    · rw [ek, zw_sI_n (Or.inl (by decide)), e13, zw_sI_n (Or.inl (by decide)), e11, zw_sI_s]
    · rw [ek, zw_sI_n (Or.inl (by decide)), e13, zw_sI_s]
    · rw [ek, zw_sI_s, ex]
  refine ka (k_X3_firstCrossing zk_34 zk_35 zk_36 h1 h2 hg S13) ⟨fun c => ⟨g, rfl, by omega, fin 0 ?_⟩, fun c => ⟨g, rfl, by omega, fin 1 ?_⟩⟩
  · exact (bI_f (none_some.mp (e9.mp c))).symm
  · refine (bI_t ?_).symm
    cases hx : kF n g with
    | none => exact absurd (e9.mpr hx) c
    | some _ => rfl
theorem k_X0_fill {h : zw_H} {n : Nat} (h1 : 1 ≤ n) (h2 : n ≤ 6) (old : h.1 27 7 = nI n → CC h n) : kcV 4 mX0_fill [.ref 27, .int (nI n)] h (fun h' => CC h' n ∧ Fr pF h h') := by
  have hN := kN_le h1 h2
  have mn : zmin (nI n) 6 = nI n := by
    unfold zmin
    rw [if_neg]
    intro c
    have := zlt (a := 6) c
    omega
  refine kcV_of rfl pn_X0 (fun _ => Nat.le_of_ble_eq_true rfl) rfl (qX0_fill_0 ⟨fun _ => fun k1 e1 => ?_, fun c => ⟨old c, Fr.rf⟩⟩)
  rw [mn] at e1
  generalize hQ : (fun (h' : zw_H) => CC h' n ∧ Fr pF h h') = Q
  have v1 : k1.1 27 7 = nI n := by rw [e1, zw_sI_s]
  have F1 : Fr pF h k1 := Fr.rf.sI e1 (by unfold pF; omega)
  refine lp_up (P := fun e => ∀ k, Fr (fun a _ => a = 33) k1 k → (∀ f, f < e → k.1 33 f = nI 0) → kwV 4 mX0_fill Q 21 [(0, .ref 27), (2, .int (nI e))] [] k) (N := 6) ?_ ?_ 0 (by omega) k1 Fr.rf (fun _ h => absurd h (by omega))
  · intro k fr inv
    refine qX0_fill_21 ⟨fun _ => ?_, fun c => absurd (by decide) c⟩
    have start : ∀ e, e < n → k.1 33 e = nI (ks n 0 e) := fun e he => by
      rw [inv e (by omega), ks_0 h1 h2]
    refine lp_up (P := fun i => ∀ k, Fr pF h k → k.1 27 7 = nI n → (∀ g, g < i → CE k n g) → (i < kN n → ∀ e, e < n → k.1 33 e = nI (ks n i e)) → (i = kN n → k.1 27 8 = nI (kN n)) → kwV 4 mX0_fill Q 44 [(0, .ref 27), (2, .int (if i < kN n then 1 else 0)), (3, .int (nI i))] [] k) (N := kN n) ?_ ?_ 0 (by omega) k (F1.tr (fr.mo (fun a b z => by unfold pF; omega))) (by rw [fr.1 27 7 (by omega)]; exact v1) (fun _ h => absurd h (by omega)) (fun _ => start) (fun h => absurd h (by omega)) |> fun z => by
      rw [if_pos (by omega)] at z
      exact z
    · intro k fr v7 inv _ sz
      rw [← hQ]
      have : CC k n ∧ Fr pF h k := ⟨⟨v7, sz rfl, inv⟩, fr⟩
      refine qX0_fill_44 ⟨fun _ => this, fun _ => ⟨fun _ => this, fun c => absurd (by rw [if_neg (by omega)]) c⟩⟩
    · intro i hi ih k fr v7 inv gr _
      refine qX0_fill_44 ⟨fun c => ?_, fun _ => ⟨fun c => ?_, fun _ => kaV (k_X0_enter h1 h2 hi v7 (gr hi)) (fun k2 r2 => fun k3 e3 => ?_)⟩⟩
      · have := zle (a := 203) c
        omega
      · rw [if_pos hi] at c
        exact absurd c (by decide)
      · rw [nI_1] at e3
        have f3 : Fr (fun a b => a = 27 ∧ b = 8) k2 k3 := Fr.rf.sI e3 ⟨rfl, rfl⟩
        have w3 : ∀ e, e < n → k3.1 33 e = nI (ks n i e) := fun e he => by
          rw [f3.1 33 e (by omega), r2.2.1 33 e (by unfold pE pSh; omega)]
          exact gr hi e he
        have v73 : k3.1 27 7 = nI n := by
          rw [f3.1 27 7 (by omega), r2.2.1 27 7 (by unfold pE pSh; omega)]
          exact v7
        refine kr (k_X0_advance h1 h2 hi v73 w3) (fun x k4 r4 => ?_)
        obtain ⟨f4, more, last⟩ := r4
        have F4 : Fr pF h k4 := ((fr.tr (r2.2.mo (fun a b z => by unfold pE pSh at z; unfold pF; omega))).tr (f3.mo (fun a b z => by unfold pF; omega))).tr (f4.mo (fun a b z => by unfold pF; omega))
        have inv4 : ∀ g, g < i + 1 → CE k4 n g := fun g hg => by
          have c3 : CE k3 n g := by
            by_cases hx : g = i
            · rw [hx]
              exact r2.1.fr f3 (by omega) (by omega) (by omega) (by omega) (by omega)
            · exact ((inv g (by omega)).fr r2.2 (by unfold pE pSh; omega) (by unfold pE pSh; omega) (by unfold pE pSh; omega) (by unfold pE pSh; omega) (by unfold pE pSh; omega)).fr f3 (by omega) (by omega) (by omega) (by omega) (by omega)
          exact c3.fr f4 (by omega) (by omega) (by omega) (by omega) (by omega)
        have v74 : k4.1 27 7 = nI n := by rw [f4.1 27 7 (by omega)]; exact v73
        have v84 : k4.1 27 8 = nI (i + 1) := by rw [f4.1 27 8 (by omega), e3, zw_sI_s]
        have ex : x = if i + 1 < kN n then 1 else 0 := by
          by_cases hx : i + 1 < kN n
          · rw [if_pos hx]
            exact (more hx).1
          · rw [if_neg hx]
            exact last (by omega)
        rw [ex, nI_1]
        exact ih k4 F4 v74 inv4 (fun z => (more z).2) (fun z => by rw [v84, z])
  · intro e he ih k fr inv
    refine qX0_fill_21 ⟨fun c => ?_, fun _ => ⟨e, rfl, by omega, fun k2 e2 => ?_⟩⟩
    · have := zle (a := 6) c
      omega
    · rw [nI_1]
      refine ih k2 (fr.sI e2 rfl) (fun f hf => ?_)
      by_cases hx : f = e
      · rw [hx, e2, zw_sI_s]
        rfl
      · rw [e2, zw_sI_n (Or.inr hx)]
        exact inv f (by omega)
theorem k_X5_reason {h : zw_H} {s : zS} {g : Nat} (V : SV s) (hT : s.2.2.2.2.1 &&& kA s.1 = s.2.2.2.2.1) (S : SO h 1 2 s) (hg : g < kN s.1) : kpI 0 mX5_reason [.ref 1, .int (nI (km s.1 g)), .int (nI (szs s.1 g)), .int (nI (kB s.1 g)), .int (bI ((kF s.1 g).isSome = true))] h (nI (rsn s g)) := by
  obtain ⟨n1, n2, v3, v4, v5, v6, v7, v8⟩ := V
  obtain ⟨s1, s2, s3, s4, s5, s6, s7⟩ := S
  have hm := km_lt n1 n2 hg
  have hz : szs s.1 g < 128 := szF_lt s.1 g n2 _
  have hB := kB_le n1 n2 hg
  refine kcI_of rfl pn_X5 (fun _ => Nat.le_of_ble_eq_true rfl) rfl (qX5_reason_0 ?_)
  rw [s2, s3, s4, s5, s6, zsub (by omega) (by omega), zsub (by omega) (by omega), zand, sz_iff n2, tg_iff n1 n2 hg hT]
  have a0 : nI (km s.1 g &&& s.2.2.2.1) = 0 ↔ kPr s.2.2.2.1 true s.1 g = none := by
    rw [← ap_iff n1 n2 hg]
    exact ⟨fun z => zeq (b := 0) z (Nat.lt_of_le_of_lt Nat.and_le_left (by omega)), fun z => by rw [z]; rfl⟩
  rw [a0, zbit0 (by omega) (by omega)]
  refine ⟨fun c1 => ⟨fun c2 => ⟨fun c3 => ⟨fun c4 => ⟨fun c5 => ⟨?_, rfl⟩, fun c5 => ⟨fun c6 => ⟨?_, rfl⟩, fun c6 => ⟨?_, rfl⟩⟩⟩, fun c4 => ⟨?_, rfl⟩⟩, fun c3 => ⟨?_, rfl⟩⟩, fun c2 => ⟨?_, rfl⟩⟩, fun c1 => ⟨?_, rfl⟩⟩
  · have k5 : s.2.2.2.2.2.1 ≠ 1 := fun z => by rw [z] at c5; exact absurd c5 (by decide)
    rw [rsn, if_neg (none_some.mp c1), if_neg c2, if_neg (none_some.mp c3), if_neg (none_some.mp c4), if_neg (fun z => k5 z.1)]
    rfl
  · rw [rsn, if_neg (none_some.mp c1), if_neg c2, if_neg (none_some.mp c3), if_neg (none_some.mp c4), if_neg (fun z => bI_0.mp c6 z.2)]
    rfl
  · have k5 : s.2.2.2.2.2.1 = 1 := by
      have : s.2.2.2.2.2.1 ≠ 0 := fun z => c5 (by rw [z]; rfl)
      omega
    rw [rsn, if_neg (none_some.mp c1), if_neg c2, if_neg (none_some.mp c3), if_neg (none_some.mp c4), if_pos ⟨k5, bI_yes c6⟩]
    rfl
  · rw [rsn, if_neg (none_some.mp c1), if_neg c2, if_neg (none_some.mp c3), if_pos (Classical.byContradiction (fun z => c4 (none_some.mpr z)))]
    rfl
  · rw [rsn, if_neg (none_some.mp c1), if_neg c2, if_pos (Classical.byContradiction (fun z => c3 (none_some.mpr z)))]
    rfl
  · rw [rsn, if_neg (none_some.mp c1), if_pos c2]
    rfl
  · rw [rsn, if_pos (Classical.byContradiction (fun z => c1 (none_some.mpr z)))]
    rfl
theorem k_X2_select {h : zw_H} {s : zS} (V : SV s) (hT : s.2.2.2.2.1 &&& kA s.1 = s.2.2.2.2.1) (S : SO h 1 2 s) (C : CC h s.1) : kcV 1 mX2_select [.ref 37, .ref 27, .ref 1] h (fun h' => CR h' s ∧ Fr pRo h h') := by
  have n1 := V.1
  have n2 := V.2.1
  have hN := kN_le n1 n2
  refine kcV_of rfl pn_X2 (fun _ => Nat.le_of_ble_eq_true rfl) rfl (qX2_select_0 (fun k1 e1 => ?_))
  generalize hQ : (fun (h' : zw_H) => CR h' s ∧ Fr pRo h h') = Q
  have F1 : Fr pRo h k1 := Fr.rf.sI e1 (Or.inl ⟨rfl, rfl⟩)
  have v1 : k1.1 37 5 = nI 0 := by rw [e1, zw_sI_s]; rfl
  refine lp_up (P := fun j => ∀ k, Fr (fun a _ => a = 41) k1 k → (∀ j', j' < j → k.1 41 j' = nI 0) → kwV 1 mX2_select Q 7 [(0, .ref 37), (1, .ref 27), (2, .ref 1), (3, .int (nI j))] [] k) (N := 7) ?_ ?_ 0 (by omega) k1 Fr.rf (fun _ h => absurd h (by omega))
  · intro k fr inv
    refine qX2_select_7 ⟨fun _ => ?_, fun c => absurd (by decide) c⟩
    refine lp_up (P := fun i => ∀ k, Fr pRo h k → k.1 37 5 = nI (ix s i) → (∀ g, g < i → adm s g = true → k.1 38 (ix s g) = nI (km s.1 g) ∧ k.1 39 (ix s g) = nI (kt s.1 g) ∧ k.1 40 (ix s g) = nI (kB s.1 g)) → (∀ j, j ≤ 6 → k.1 41 j = nI (cwN s j i)) → kwV 1 mX2_select Q 28 [(0, .ref 37), (1, .ref 27), (2, .ref 1), (3, .int (nI i))] [] k) (N := kN s.1) ?_ ?_ 0 (by omega) k (F1.tr (fr.mo (fun a b z => by unfold pRo; omega))) (by rw [fr.1 37 5 (by omega)]; exact v1) (fun _ h => absurd h (by omega)) (fun j hj => inv j (by omega))
    · intro k fr sz en bn
      have C' : CC k s.1 := C.fr fr (fun _ => by unfold pRo; omega) (fun _ _ _ _ => by unfold pRo; omega)
      refine qX2_select_28 ⟨fun _ => ?_, fun c => absurd (by rw [C'.2.1]; exact nI_le (Nat.le_refl _) (by omega)) c⟩
      rw [← hQ]
      refine ⟨⟨sz, fun k hk => ?_, bn⟩, fr⟩
      obtain ⟨x1, x2, x3⟩ := nth_ok hk
      have := en (nth s k) x1 x2
      rw [x3] at this
      exact this
    · intro i hi ih k fr sz en bn
      have C' : CC k s.1 := C.fr fr (fun _ => by unfold pRo; omega) (fun _ _ _ _ => by unfold pRo; omega)
      have S' : SO k 1 2 s := S.fr fr (fun _ => by unfold pRo; omega) (fun _ => by unfold pRo; omega)
      obtain ⟨c1, c2, c3, c4, c5⟩ := C'.2.2 i hi
      have hr := rsn_le6 s i
      have hB := kB_le n1 n2 hi
      have hix := ix_le s i
      refine qX2_select_28 ⟨fun c => ?_, fun _ => ⟨i, rfl, by omega, i, rfl, by omega, i, rfl, by omega, i, rfl, by omega, ?_⟩⟩
      · rw [C'.2.1] at c
        have := zle c
        omega
      rw [c1, c3, c4, c5]
      refine ka (k_X5_reason V hT S' hi) ⟨fun c => ?_, fun c => ⟨i, rfl, by omega, ix s i, sz, by omega, fun k8 e8 => ⟨i, rfl, by omega, ix s i, ?_, by omega, fun k11 e11 => ⟨ix s i, ?_, by omega, fun k13 e13 => ⟨kB s.1 i, rfl, by omega, kB s.1 i, rfl, by omega, fun k16 e16 => fun k17 e17 => ?_⟩⟩⟩⟩⟩
      · have na : ¬ adm s i = true := fun z => c (by rw [adm_rsn.mp z]; rfl)
        rw [nI_1]
        refine ih k fr ?_ (fun g hg ha => ?_) (fun j hj => ?_)
        · rw [ix_succ, if_neg na]
          exact sz
        · by_cases hx : g = i
          · rw [hx] at ha
            exact absurd ha na
          · exact en g (by omega) ha
        · rw [bn j hj, cwN, cwN, fb_ct_succ, if_neg (fun z => na (by rw [Bool.and_eq_true] at z; exact z.1))]
          rfl
      · rw [e8, zw_sI_n (Or.inl (by decide))]
        exact sz
      · rw [e11, zw_sI_n (Or.inl (by decide)), e8, zw_sI_n (Or.inl (by decide))]
        exact sz
      · have ya : adm s i = true := adm_rsn.mpr (zeq (b := 0) c)
        rw [c1] at e8
        have v29 : k8.1 29 i = nI (kt s.1 i) := by rw [e8, zw_sI_n (Or.inl (by decide))]; exact c2
        rw [v29] at e11
        have v41 : k13.1 41 (kB s.1 i) = nI (cwN s (kB s.1 i) i) := by
          rw [e13, zw_sI_n (Or.inl (by decide)), e11, zw_sI_n (Or.inl (by decide)), e8, zw_sI_n (Or.inl (by decide))]
          exact bn _ (by omega)
        rw [v41, nI_1] at e16
        have v37 : k16.1 37 5 = nI (ix s i) := by
          rw [e16, zw_sI_n (Or.inl (by decide)), e13, zw_sI_n (Or.inl (by decide)), e11, zw_sI_n (Or.inl (by decide)), e8, zw_sI_n (Or.inl (by decide))]
          exact sz
        rw [v37, nI_1] at e17
        have po : ∀ a b, 38 ≤ a → a ≤ 41 → pRo a b := fun a b x y => Or.inr ⟨x, y⟩
        have F17 : Fr pRo h k17 := ((((fr.sI e8 (po _ _ (by omega) (by omega))).sI e11 (po _ _ (by omega) (by omega))).sI e13 (po _ _ (by omega) (by omega))).sI e16 (po _ _ (by omega) (by omega))).sI e17 (Or.inl ⟨rfl, rfl⟩)
        rw [nI_1]
        refine ih k17 F17 ?_ (fun g hg ha => ?_) (fun j hj => ?_)
        · rw [e17, zw_sI_s, ix_succ, if_pos ya]
        · by_cases hx : g = i
          · subst hx
            refine ⟨?_, ?_, ?_⟩
            · rw [e17, zw_sI_n (Or.inl (by decide)), e16, zw_sI_n (Or.inl (by decide)), e13, zw_sI_n (Or.inl (by decide)), e11, zw_sI_n (Or.inl (by decide)), e8, zw_sI_s]
            · rw [e17, zw_sI_n (Or.inl (by decide)), e16, zw_sI_n (Or.inl (by decide)), e13, zw_sI_n (Or.inl (by decide)), e11, zw_sI_s]
            · rw [e17, zw_sI_n (Or.inl (by decide)), e16, zw_sI_n (Or.inl (by decide)), e13, zw_sI_s]
          · have hlt := ix_lt (show g < i by omega) ha
            obtain ⟨x1, x2, x3⟩ := en g (by omega) ha
            refine ⟨?_, ?_, ?_⟩
            · rw [e17, zw_sI_n (Or.inl (by decide)), e16, zw_sI_n (Or.inl (by decide)), e13, zw_sI_n (Or.inl (by decide)), e11, zw_sI_n (Or.inl (by decide)), e8, zw_sI_n (Or.inr (by omega))]
              exact x1
            · rw [e17, zw_sI_n (Or.inl (by decide)), e16, zw_sI_n (Or.inl (by decide)), e13, zw_sI_n (Or.inl (by decide)), e11, zw_sI_n (Or.inr (by omega)), e8, zw_sI_n (Or.inl (by decide))]
              exact x2
            · rw [e17, zw_sI_n (Or.inl (by decide)), e16, zw_sI_n (Or.inl (by decide)), e13, zw_sI_n (Or.inr (by omega)), e11, zw_sI_n (Or.inl (by decide)), e8, zw_sI_n (Or.inl (by decide))]
              exact x3
        · by_cases hx : j = kB s.1 i
          · subst hx
            rw [e17, zw_sI_n (Or.inl (by decide)), e16, zw_sI_s, cwN, cwN, fb_ct_succ, if_pos (by rw [ya]; simp)]
          · rw [e17, zw_sI_n (Or.inl (by decide)), e16, zw_sI_n (Or.inr hx), e13, zw_sI_n (Or.inl (by decide)), e11, zw_sI_n (Or.inl (by decide)), e8, zw_sI_n (Or.inl (by decide)), bn j hj, cwN, cwN, fb_ct_succ, if_neg (by
              intro z
              rw [Bool.and_eq_true, decide_eq_true_eq] at z
              exact hx z.2.symm)]
            rfl
  · intro j hj ih k fr inv
    refine qX2_select_7 ⟨fun c => ?_, fun _ => ⟨j, rfl, by omega, fun k2 e2 => ?_⟩⟩
    · have := zlt (a := 6) c
      omega
    · rw [nI_1]
      refine ih k2 (fr.sI e2 rfl) (fun j' hj' => ?_)
      by_cases hx : j' = j
      · rw [hx, e2, zw_sI_s]
        rfl
      · rw [e2, zw_sI_n (Or.inr hx)]
        exact inv j' (by omega)
theorem k_X7_refresh {h : zw_H} {s : zS} (V : SV s) (hT : s.2.2.2.2.1 &&& kA s.1 = s.2.2.2.2.1) (S : SO h 1 2 s) (old : h.1 27 7 = nI s.1 → CC h s.1) : kcV 5 mX7_refresh [.ref 0] h (fun h' => CC h' s.1 ∧ CR h' s ∧ Fr (fun a b => pF a b ∨ pRo a b) h h') := by
  refine kcV_of rfl pn_X7 (fun _ => Nat.le_of_ble_eq_true rfl) rfl (qX7_refresh_0 ?_)
  rw [S.1]
  refine kaV (k_X0_fill V.1 V.2.1 old) (fun k1 r1 => ?_)
  have S1 : SO k1 1 2 s := S.fr r1.2 (fun _ => by unfold pF; omega) (fun _ => by unfold pF; omega)
  refine kaV (k_X2_select V hT S1 r1.1) (fun k2 r2 => ?_)
  exact ⟨r1.1.fr r2.2 (fun _ => by unfold pRo; omega) (fun _ _ _ _ => by unfold pRo; omega), r2.1, (r1.2.mo (fun a b z => Or.inl z)).tr (r2.2.mo (fun a b z => Or.inr z))⟩
