set_option maxRecDepth 100000 in
set_option maxHeartbeats 8000000 in
theorem law_switch {L i : Nat} {xs : Nat → Int32} {h : zw_H} {A : zA} (hi : i + 5 ≤ L) (hL : L ≤ 2560) (CW1 : CW h A) (RW0 : RW h A) (go : ∀ (h' : zw_H) (A' : zA), CW h' A' → RW h' A' → zj L xs 1902 [] h' i) : zj L xs 26 [] h i := by
  refine zw_aload_nT 3 dL_law_26 rfl rfl rfl ?_
  refine zw_iload_n 0 dL_law_27 rfl rfl rfl ?_
  refine zw_sld i (Nat.succ_ne_zero L) (show L < 2 ^ 31 by omega) dL_law_28 ⟨rfl, show i < L by omega⟩ rfl ?_
  refine zw_bipush (v := (63 : Int32)) dL_law_29 (by decide) rfl ?_
  refine zw_iand dL_law_31 rfl ?_
  show zj L xs 32 [.int (xs i &&& 63)] h i
  generalize xs i &&& 63 = v
  by_cases cs : v.toInt < 0 ∨ 49 < v.toInt
  · exact zw_tabOut (np := 1902) dL_law_32 cs (by decide) (go h A CW1 RW0)
  · have e : v.toInt = 0 ∨ v.toInt = 1 ∨ v.toInt = 2 ∨ v.toInt = 3 ∨ v.toInt = 4 ∨ v.toInt = 5 ∨ v.toInt = 6 ∨ v.toInt = 7 ∨ v.toInt = 8 ∨ v.toInt = 9 ∨ v.toInt = 10 ∨ v.toInt = 11 ∨ v.toInt = 12 ∨ v.toInt = 13 ∨ v.toInt = 14 ∨ v.toInt = 15 ∨ v.toInt = 16 ∨ v.toInt = 17 ∨ v.toInt = 18 ∨ v.toInt = 19 ∨ v.toInt = 20 ∨ v.toInt = 21 ∨ v.toInt = 22 ∨ v.toInt = 23 ∨ v.toInt = 24 ∨ v.toInt = 25 ∨ v.toInt = 26 ∨ v.toInt = 27 ∨ v.toInt = 28 ∨ v.toInt = 29 ∨ v.toInt = 30 ∨ v.toInt = 31 ∨ v.toInt = 32 ∨ v.toInt = 33 ∨ v.toInt = 34 ∨ v.toInt = 35 ∨ v.toInt = 36 ∨ v.toInt = 37 ∨ v.toInt = 38 ∨ v.toInt = 39 ∨ v.toInt = 40 ∨ v.toInt = 41 ∨ v.toInt = 42 ∨ v.toInt = 43 ∨ v.toInt = 44 ∨ v.toInt = 45 ∨ v.toInt = 46 ∨ v.toInt = 47 ∨ v.toInt = 48 ∨ v.toInt = 49 := by omega
    rcases e with e | e | e | e | e | e | e | e | e | e | e | e | e | e | e | e | e | e | e | e | e | e | e | e | e | e | e | e | e | e | e | e | e | e | e | e | e | e | e | e | e | e | e | e | e | e | e | e | e | e
    · exact zw_tabIn (np := 248) (off := 216) dL_law_32 (by rw [e]; decide) (by rw [e]; decide) (by rw [e]; rfl) (by decide) (lc_0 hi hL CW1 RW0 go)
    · exact zw_tabIn (np := 271) (off := 239) dL_law_32 (by rw [e]; decide) (by rw [e]; decide) (by rw [e]; rfl) (by decide) (lc_1 hi hL CW1 RW0 go)
    · exact zw_tabIn (np := 320) (off := 288) dL_law_32 (by rw [e]; decide) (by rw [e]; decide) (by rw [e]; rfl) (by decide) (lc_2 hi hL CW1 RW0 go)
    · exact zw_tabIn (np := 369) (off := 337) dL_law_32 (by rw [e]; decide) (by rw [e]; decide) (by rw [e]; rfl) (by decide) (lc_3 hi hL CW1 RW0 go)
    · exact zw_tabIn (np := 428) (off := 396) dL_law_32 (by rw [e]; decide) (by rw [e]; decide) (by rw [e]; rfl) (by decide) (lc_4 hi hL CW1 RW0 go)
    · exact zw_tabIn (np := 487) (off := 455) dL_law_32 (by rw [e]; decide) (by rw [e]; decide) (by rw [e]; rfl) (by decide) (lc_5 hi hL CW1 RW0 go)
    · exact zw_tabIn (np := 526) (off := 494) dL_law_32 (by rw [e]; decide) (by rw [e]; decide) (by rw [e]; rfl) (by decide) (lc_6 hi hL CW1 RW0 go)
    · exact zw_tabIn (np := 549) (off := 517) dL_law_32 (by rw [e]; decide) (by rw [e]; decide) (by rw [e]; rfl) (by decide) (lc_7 hi hL CW1 RW0 go)
    · exact zw_tabIn (np := 562) (off := 530) dL_law_32 (by rw [e]; decide) (by rw [e]; decide) (by rw [e]; rfl) (by decide) (lc_8 hi hL CW1 RW0 go)
    · exact zw_tabIn (np := 585) (off := 553) dL_law_32 (by rw [e]; decide) (by rw [e]; decide) (by rw [e]; rfl) (by decide) (lc_9 hi hL CW1 RW0 go)
    · exact zw_tabIn (np := 608) (off := 576) dL_law_32 (by rw [e]; decide) (by rw [e]; decide) (by rw [e]; rfl) (by decide) (lc_10 hi hL CW1 RW0 go)
    · exact zw_tabIn (np := 631) (off := 599) dL_law_32 (by rw [e]; decide) (by rw [e]; decide) (by rw [e]; rfl) (by decide) (lc_11 hi hL CW1 RW0 go)
    · exact zw_tabIn (np := 664) (off := 632) dL_law_32 (by rw [e]; decide) (by rw [e]; decide) (by rw [e]; rfl) (by decide) (lc_12 hi hL CW1 RW0 go)
    · exact zw_tabIn (np := 707) (off := 675) dL_law_32 (by rw [e]; decide) (by rw [e]; decide) (by rw [e]; rfl) (by decide) (lc_13 hi hL CW1 RW0 go)
    · exact zw_tabIn (np := 750) (off := 718) dL_law_32 (by rw [e]; decide) (by rw [e]; decide) (by rw [e]; rfl) (by decide) (lc_14 hi hL CW1 RW0 go)
    · exact zw_tabIn (np := 793) (off := 761) dL_law_32 (by rw [e]; decide) (by rw [e]; decide) (by rw [e]; rfl) (by decide) (lc_15 hi hL CW1 RW0 go)
    · exact zw_tabIn (np := 826) (off := 794) dL_law_32 (by rw [e]; decide) (by rw [e]; decide) (by rw [e]; rfl) (by decide) (lc_16 hi hL CW1 RW0 go)
    · exact zw_tabIn (np := 869) (off := 837) dL_law_32 (by rw [e]; decide) (by rw [e]; decide) (by rw [e]; rfl) (by decide) (lc_17 hi hL CW1 RW0 go)
    · exact zw_tabIn (np := 892) (off := 860) dL_law_32 (by rw [e]; decide) (by rw [e]; decide) (by rw [e]; rfl) (by decide) (lc_18 hi hL CW1 RW0 go)
    · exact zw_tabIn (np := 925) (off := 893) dL_law_32 (by rw [e]; decide) (by rw [e]; decide) (by rw [e]; rfl) (by decide) (lc_19 hi hL CW1 RW0 go)
    · exact zw_tabIn (np := 958) (off := 926) dL_law_32 (by rw [e]; decide) (by rw [e]; decide) (by rw [e]; rfl) (by decide) (lc_20 hi hL CW1 RW0 go)
    · exact zw_tabIn (np := 981) (off := 949) dL_law_32 (by rw [e]; decide) (by rw [e]; decide) (by rw [e]; rfl) (by decide) (lc_21 hi hL CW1 RW0 go)
    · exact zw_tabIn (np := 1004) (off := 972) dL_law_32 (by rw [e]; decide) (by rw [e]; decide) (by rw [e]; rfl) (by decide) (lc_22 hi hL CW1 RW0 go)
    · exact zw_tabIn (np := 1037) (off := 1005) dL_law_32 (by rw [e]; decide) (by rw [e]; decide) (by rw [e]; rfl) (by decide) (lc_23 hi hL CW1 RW0 go)
    · exact zw_tabIn (np := 1060) (off := 1028) dL_law_32 (by rw [e]; decide) (by rw [e]; decide) (by rw [e]; rfl) (by decide) (lc_24 hi hL CW1 RW0 go)
    · exact zw_tabIn (np := 1093) (off := 1061) dL_law_32 (by rw [e]; decide) (by rw [e]; decide) (by rw [e]; rfl) (by decide) (lc_25 hi hL CW1 RW0 go)
    · exact zw_tabIn (np := 1126) (off := 1094) dL_law_32 (by rw [e]; decide) (by rw [e]; decide) (by rw [e]; rfl) (by decide) (lc_26 hi hL CW1 RW0 go)
    · exact zw_tabIn (np := 1149) (off := 1117) dL_law_32 (by rw [e]; decide) (by rw [e]; decide) (by rw [e]; rfl) (by decide) (lc_27 hi hL CW1 RW0 go)
    · exact zw_tabIn (np := 1172) (off := 1140) dL_law_32 (by rw [e]; decide) (by rw [e]; decide) (by rw [e]; rfl) (by decide) (lc_28 hi hL CW1 RW0 go)
    · exact zw_tabIn (np := 1195) (off := 1163) dL_law_32 (by rw [e]; decide) (by rw [e]; decide) (by rw [e]; rfl) (by decide) (lc_29 hi hL CW1 RW0 go)
    · exact zw_tabIn (np := 1218) (off := 1186) dL_law_32 (by rw [e]; decide) (by rw [e]; decide) (by rw [e]; rfl) (by decide) (lc_30 hi hL CW1 RW0 go)
    · exact zw_tabIn (np := 1241) (off := 1209) dL_law_32 (by rw [e]; decide) (by rw [e]; decide) (by rw [e]; rfl) (by decide) (lc_31 hi hL CW1 RW0 go)
    · exact zw_tabIn (np := 1254) (off := 1222) dL_law_32 (by rw [e]; decide) (by rw [e]; decide) (by rw [e]; rfl) (by decide) (lc_32 hi hL CW1 RW0 go)
    · exact zw_tabIn (np := 1277) (off := 1245) dL_law_32 (by rw [e]; decide) (by rw [e]; decide) (by rw [e]; rfl) (by decide) (lc_33 hi hL CW1 RW0 go)
    · exact zw_tabIn (np := 1310) (off := 1278) dL_law_32 (by rw [e]; decide) (by rw [e]; decide) (by rw [e]; rfl) (by decide) (lc_34 hi hL CW1 RW0 go)
    · exact zw_tabIn (np := 1359) (off := 1327) dL_law_32 (by rw [e]; decide) (by rw [e]; decide) (by rw [e]; rfl) (by decide) (lc_35 hi hL CW1 RW0 go)
    · exact zw_tabIn (np := 1418) (off := 1386) dL_law_32 (by rw [e]; decide) (by rw [e]; decide) (by rw [e]; rfl) (by decide) (lc_36 hi hL CW1 RW0 go)
    · exact zw_tabIn (np := 1487) (off := 1455) dL_law_32 (by rw [e]; decide) (by rw [e]; decide) (by rw [e]; rfl) (by decide) (lc_37 hi hL CW1 RW0 go)
    · exact zw_tabIn (np := 1520) (off := 1488) dL_law_32 (by rw [e]; decide) (by rw [e]; decide) (by rw [e]; rfl) (by decide) (lc_38 hi hL CW1 RW0 go)
    · exact zw_tabIn (np := 1554) (off := 1522) dL_law_32 (by rw [e]; decide) (by rw [e]; decide) (by rw [e]; rfl) (by decide) (lc_39 hi hL CW1 RW0 go)
    · exact zw_tabIn (np := 1598) (off := 1566) dL_law_32 (by rw [e]; decide) (by rw [e]; decide) (by rw [e]; rfl) (by decide) (lc_40 hi hL CW1 RW0 go)
    · exact zw_tabIn (np := 1632) (off := 1600) dL_law_32 (by rw [e]; decide) (by rw [e]; decide) (by rw [e]; rfl) (by decide) (lc_41 hi hL CW1 RW0 go)
    · exact zw_tabIn (np := 1665) (off := 1633) dL_law_32 (by rw [e]; decide) (by rw [e]; decide) (by rw [e]; rfl) (by decide) (lc_42 hi hL CW1 RW0 go)
    · exact zw_tabIn (np := 1709) (off := 1677) dL_law_32 (by rw [e]; decide) (by rw [e]; decide) (by rw [e]; rfl) (by decide) (lc_43 hi hL CW1 RW0 go)
    · exact zw_tabIn (np := 1753) (off := 1721) dL_law_32 (by rw [e]; decide) (by rw [e]; decide) (by rw [e]; rfl) (by decide) (lc_44 hi hL CW1 RW0 go)
    · exact zw_tabIn (np := 1786) (off := 1754) dL_law_32 (by rw [e]; decide) (by rw [e]; decide) (by rw [e]; rfl) (by decide) (lc_45 hi hL CW1 RW0 go)
    · exact zw_tabIn (np := 1819) (off := 1787) dL_law_32 (by rw [e]; decide) (by rw [e]; decide) (by rw [e]; rfl) (by decide) (lc_46 hi hL CW1 RW0 go)
    · exact zw_tabIn (np := 1852) (off := 1820) dL_law_32 (by rw [e]; decide) (by rw [e]; decide) (by rw [e]; rfl) (by decide) (lc_47 hi hL CW1 RW0 go)
    · exact zw_tabIn (np := 1865) (off := 1833) dL_law_32 (by rw [e]; decide) (by rw [e]; decide) (by rw [e]; rfl) (by decide) (lc_48 hi hL CW1 RW0 go)
    · exact zw_tabIn (np := 1888) (off := 1856) dL_law_32 (by rw [e]; decide) (by rw [e]; decide) (by rw [e]; rfl) (by decide) (lc_49 hi hL CW1 RW0 go)
set_option maxRecDepth 100000 in
set_option maxHeartbeats 4000000 in
theorem law_loop {L : Nat} {xs : Nat → Int32} (hL : L ≤ 2560) : ∀ (n i : Nat) (h : zw_H) (A : zA), L + 6 ≤ i + n → i ≤ L → CW h A → RW h A → zj L xs 18 [] h i := by
  intro n
  induction n with
  | zero =>
    intro i h A h1 h2
    omega
  | succ n ih =>
    intro i h A h1 h2 CW1 RW0
    refine zw_iload_n 0 dL_law_18 rfl rfl rfl ?_
    refine zw_aload_nT 3 dL_law_19 rfl rfl rfl ?_
    refine zw_slen (Nat.succ_ne_zero L) dL_law_20 rfl ?_
    refine zw_iconst (v := (5 : Int32)) dL_law_21 (by decide) rfl ?_
    refine zw_isub dL_law_22 rfl ?_
    refine zw_icmp_gt (tg := 1908) dL_law_23 (by decide) rfl (fun _ => ?_) (fun c => ?_)
    · refine zw_iconst (v := (1 : Int32)) dL_law_1908 (by decide) rfl ?_
      exact zw_ireturn (ty := .boolean) dL_law_1909 rfl rfl (Nat.le_refl _) (Nat.le_refl _) rfl
    · have hi : i + 5 ≤ L := li_head hL (by omega) c
      refine law_switch hi hL CW1 RW0 (fun h' A' CW2 RW2 => ?_)
      refine zw_iinc (v := nI (i + 5)) (lv' := lvL (i + 5)) 0 dL_law_1902 rfl (nI_add i 5) (Nat.le_of_ble_eq_true rfl) rfl rfl ?_
      refine zw_goto (np := 18) dL_law_1905 (by decide) ?_
      exact ih (i + 5) h' A' (by omega) hi CW2 RW2
/-- what there is at the start -/
def zA0 : zA := (s0 5, 0, fun _ => s0 5, 0, fun _ => 0)
theorem zA0_V : AV zA0 := ⟨SV.s0 (by decide) (by decide), fun i hi => absurd hi (Nat.not_lt_zero i), Nat.zero_le _, fun i hi => absurd hi (Nat.not_lt_zero i)⟩
theorem zA0_W : AW zA0 := ⟨Nat.zero_and _, fun i hi => absurd hi (Nat.not_lt_zero i)⟩
theorem start_C {k h1 : zw_H} (S : SO k 1 2 (s0 5)) (F0 : Fr (fun a _ => a = 1 ∨ a = 2) zh0 k) (C5 : CC h1 5) (R5 : CR h1 (s0 5)) (F1 : Fr (fun a b => pF a b ∨ pRo a b) k h1) : CW h1 zA0 := by
  have z : ∀ a b, a = 3 ∨ a = 25 → h1.1 a b = 0 := fun a b hab => by
    rw [F1.1 a b (by unfold pF pRo; omega), F0.1 a b (by omega)]
    rfl
  refine ⟨zA0_V, zA0_W, S.fr F1 (fun _ => by unfold pF pRo; omega) (fun _ => by unfold pF pRo; omega), ⟨0, by decide, z 3 1 (Or.inl rfl), z 3 2 (Or.inl rfl), Nat.zero_le _, fun i hi => absurd hi (Nat.not_lt_zero i)⟩, ⟨z 25 1 (Or.inr rfl), fun i hi => absurd hi (Nat.not_lt_zero i)⟩, C5, R5⟩
theorem start_Z {k h1 : zw_H} (F0 : Fr (fun a _ => a = 1 ∨ a = 2) zh0 k) (F1 : Fr (fun a b => pF a b ∨ pRo a b) k h1) : zZ h1 56 := fun a ha => ⟨fun b => by
    rw [F1.1 a b (by unfold pF pRo; omega), F0.1 a b (by omega)]
    rfl, fun b => by
    rw [F1.2 a b (by unfold pF pRo; omega), F0.2 a b (by omega)]
    rfl⟩
theorem start_R {h1 h2 : zw_H} (Z : zZ h1 56) (T : RT h2 5) (P : RP h2 (s0 5)) (Aa : RA h2 (s0 5)) (F2 : Fr pT h1 h2) : RW h2 zA0 := by
  have z : ∀ b, b = 1 ∨ b = 3 → h2.1 56 b = 0 := fun b hb => by
    rw [F2.1 56 b (by unfold pT pL pA; omega)]
    exact (Z 56 (Nat.le_refl _)).1 b
  exact ⟨zA0_V, T, P, Aa, ⟨z 1 (Or.inl rfl), Nat.zero_le _, fun i c hi => absurd hi (Nat.not_lt_zero i)⟩, ⟨z 3 (Or.inr rfl), fun i hi => absurd hi (Nat.not_lt_zero i)⟩⟩
theorem pT_R {a b : Nat} (z : pT a b) : pR a b := by
  unfold pT pL pA at z
  unfold pR
  omega
set_option maxRecDepth 100000 in
set_option maxHeartbeats 8000000 in
theorem law_zw {L : Nat} {xs : Nat → Int32} (hL : L ≤ 2560) : zw (mL_law L xs) 8 66 5289 lQ 0 [(0, .retAddr 2)] [] [] zh0 0 0 := by
  refine zx_new (sh := []) (ck' := 1) (cs' := 10) (zh0_Z _) (ci := 7) (fs := [some none, some none, some none, some none, some none, some none, some none, some none, some none, some none]) rfl in_X7 cl_X7 c_L_7 u_X7 z0_X7 dL_law_0 (Nat.le_of_ble_eq_true rfl) (Nat.le_of_ble_eq_true rfl) rfl rfl rfl ?_
  refine zw.shp (sh' := [.inl (7, [some none, some none, some none, some none, some none, some none, some none, some none, some none, some none])]) rfl ?_
  refine zw.st (st' := [.ref 0]) rfl ?_
  refine zw_dup dL_law_3 rfl rfl ?_
  refine zw_callI (n := 0) (As := []) (rest := [.ref 0]) c_X7_init my_X7_init rfl rfl rfl rfl k_L_9 i_X7_init dL_law_4 (by decide) (Nat.le_of_ble_eq_true rfl) (Nat.le_of_ble_eq_true rfl) (Nat.le_of_ble_eq_true rfl) rfl (fun r s1 h1 hq => ?_)
  obtain ⟨rfl, rfl, k, S, F0, C5, R5, F1⟩ := hq
  refine zw.st (st' := [.ref 0]) rfl ?_
  refine zw_astore_n (lv' := [(1, .ref 0), (0, .retAddr 2)]) dL_law_7 rfl (Nat.le_of_ble_eq_true rfl) rfl rfl ?_
  have Z := start_Z F0 F1
  refine zx_new (sh := zSK) (ck' := 57) (cs' := 3015) Z (ci := 8) (fs := [some none, none, some none, none, some none, some none, some none, none, none, some none, none, some none, some none, some none]) rfl in_X8 cl_X8 c_L_10 u_X8 z0_X8 dL_law_8 (Nat.le_of_ble_eq_true rfl) (Nat.le_of_ble_eq_true rfl) rfl rfl rfl ?_
  refine zw.st (st' := [.ref 56]) rfl ?_
  refine zw_dup dL_law_11 rfl rfl ?_
  refine zw_callI (n := 0) (As := []) (rest := [.ref 56]) (c_X8_init Z) my_X8_init rfl rfl rfl rfl k_L_12 i_X8_init dL_law_12 (by decide) (Nat.le_of_ble_eq_true rfl) (Nat.le_of_ble_eq_true rfl) (Nat.le_of_ble_eq_true rfl) rfl (fun r s1 h2 hq => ?_)
  obtain ⟨rfl, rfl, T, P, Aa, F2⟩ := hq
  refine zw.st (st' := [.ref 56]) rfl ?_
  refine zw_astore_n (lv' := [(2, .ref 56), (1, .ref 0), (0, .retAddr 2)]) dL_law_15 rfl (Nat.le_of_ble_eq_true rfl) rfl rfl ?_
  refine zw_iconst (v := nI 0) dL_law_16 (by decide) rfl ?_
  refine zw_istore_n (lv' := lvL 0) dL_law_17 rfl (Nat.le_of_ble_eq_true rfl) rfl rfl ?_
  exact law_loop hL (L + 6) 0 h2 zA0 (by omega) (Nat.zero_le L) ((start_C S F0 C5 R5 F1).frR (F2.mo (fun _ _ z => pT_R z))) (start_R Z T P Aa F2)
