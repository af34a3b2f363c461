set_option maxRecDepth 100000 in
set_option maxHeartbeats 4000000 in
theorem rX0_fill_0 {q : zw_H → Prop} {h : zw_H} {v1 : Int32} (K : ((¬ (h.1 27 7) = v1 → (∀ h1 : zw_H, h1 = zw_sI h 27 7 (zmin v1 (6 : Int32)) → zwV 4 mX0_fill q 21 [(0, .ref 27), (2, .int (0 : Int32))] [] h1)) ∧ ((h.1 27 7) = v1 → q h))) : zwV 4 mX0_fill q 0 [(0, .ref 27), (1, .int v1)] [] h := by
  refine zw_aload_n 0 dX0_fill_0 rfl rfl rfl ?_
  refine zw_getI f_X0_38 dX0_fill_1 zs_27 rfl rfl ?_
  refine zw_iload_n 1 dX0_fill_4 rfl rfl rfl ?_
  refine zw_icmp_ne (tg := 9) dX0_fill_5 (by decide) rfl (fun c => ?_) (fun c => ?_)
  · have K := K.1 c
    refine zw_aload_n 0 dX0_fill_9 rfl rfl rfl ?_
    refine zw_iload_n 1 dX0_fill_10 rfl rfl rfl ?_
    refine zw_bipush (v := (6 : Int32)) dX0_fill_11 (by decide) rfl ?_
    refine zw_min k_X0_42 dX0_fill_13 (by decide) (Nat.le_of_ble_eq_true rfl) (Nat.le_refl 0) (Nat.le_refl 0) rfl ?_
    refine zw_putI f_X0_38 cl_X0 rfl ⟨rfl, rfl⟩ dX0_fill_16 zs_27 rfl rfl ?_
    generalize e1 : zw_sI h 27 7 (zmin v1 (6 : Int32)) = h1
    have K := K h1 e1.symm
    refine zw_iconst (v := (0 : Int32)) dX0_fill_19 (by decide) rfl ?_
    refine zw_istore_n dX0_fill_20 rfl (by decide) rfl rfl ?_
    exact zw.sub [1, 0] rfl K
  · have K := K.2 c
    exact zw_return dX0_fill_8 rfl (Nat.le_refl 0) (Nat.le_refl 0) ⟨rfl, rfl, K⟩

set_option maxRecDepth 100000 in
set_option maxHeartbeats 4000000 in
theorem rX0_fill_21 {q : zw_H → Prop} {h : zw_H} {v2 : Int32} (K : (((6 : Int32) ≤ v2 → zwV 4 mX0_fill q 44 [(0, .ref 27), (2, .int (1 : Int32)), (3, .int (0 : Int32))] [] h) ∧ (¬ (6 : Int32) ≤ v2 → (∃ j1 : Nat, v2 = nI j1 ∧ j1 < 6 ∧ ∀ h2 : zw_H, h2 = zw_sI h 33 j1 (0 : Int32) → zwV 4 mX0_fill q 21 [(0, .ref 27), (2, .int (v2 + (1 : Int32)))] [] h2)))) : zwV 4 mX0_fill q 21 [(0, .ref 27), (2, .int v2)] [] h := by
  refine zw_iload_n 1 dX0_fill_21 rfl rfl rfl ?_
  refine zw_bipush (v := (6 : Int32)) dX0_fill_22 (by decide) rfl ?_
  refine zw_icmp_ge (tg := 40) dX0_fill_24 (by decide) rfl (fun c => ?_) (fun c => ?_)
  · have K := K.1 c
    refine zw_iconst (v := (1 : Int32)) dX0_fill_40 (by decide) rfl ?_
    refine zw_istore_n dX0_fill_41 rfl (by decide) rfl rfl ?_
    refine zw_iconst (v := (0 : Int32)) dX0_fill_42 (by decide) rfl ?_
    refine zw_istore_n dX0_fill_43 rfl (by decide) rfl rfl ?_
    exact zw.sub [2, 1, 0] rfl K
  · have K := K.2 c
    refine zw_aload_n 0 dX0_fill_27 rfl rfl rfl ?_
    refine zw_getR f_X0_28 dX0_fill_28 zs_27 rfl rfl ?_
    refine zw_iload_n 1 dX0_fill_31 rfl rfl rfl ?_
    refine zw_iconst (v := (0 : Int32)) dX0_fill_32 (by decide) rfl ?_
    obtain ⟨j1, hj1, hn1, K⟩ := K
    refine zw_iast j1 dX0_fill_33 zs_33 ⟨hj1, hn1⟩ (by decide) rfl ?_
    generalize e2 : zw_sI h 33 j1 (0 : Int32) = h2
    have K := K h2 e2.symm
    refine zw_iinc (v := (v2 + (1 : Int32))) 1 dX0_fill_34 rfl rfl (by decide) rfl rfl ?_
    refine zw_goto (np := 21) dX0_fill_37 (by decide) ?_
    exact zw.sub [1, 0] rfl K

set_option maxRecDepth 100000 in
set_option maxHeartbeats 4000000 in
theorem rX0_fill_44 {q : zw_H → Prop} {h : zw_H} {v2 v3 : Int32} (K : (((203 : Int32) ≤ v3 → q h) ∧ (¬ (203 : Int32) ≤ v3 → ((v2 = 0 → q h) ∧ (¬ v2 = 0 → (∃ q1 : zw_H → Prop, zcV 3 mX0_enter [.ref 27, .int v3] h q1 ∧ (∀ h1 : zw_H, q1 h1 → (∀ h2 : zw_H, h2 = zw_sI h1 27 8 (v3 + (1 : Int32)) → (∃ q3 : Int32 → zw_H → Prop, zcI 2 mX0_advance [.ref 27] h2 q3 ∧ (∀ (x3 : Int32) (h3 : zw_H), q3 x3 h3 → zwV 4 mX0_fill q 44 [(0, .ref 27), (2, .int x3), (3, .int (v3 + (1 : Int32)))] [] h3)))))))))) : zwV 4 mX0_fill q 44 [(0, .ref 27), (2, .int v2), (3, .int v3)] [] h := by
  refine zw_iload_n 2 dX0_fill_44 rfl rfl rfl ?_
  refine zw_sipush (v := (203 : Int32)) dX0_fill_45 (by decide) rfl ?_
  refine zw_icmp_ge (tg := 78) dX0_fill_48 (by decide) rfl (fun c => ?_) (fun c => ?_)
  · have K := K.1 c
    exact zw_return dX0_fill_78 rfl (Nat.le_refl 0) (Nat.le_refl 0) ⟨rfl, rfl, K⟩
  · have K := K.2 c
    refine zw_iload_n 1 dX0_fill_51 rfl rfl rfl ?_
    refine zw_if_eq (tg := 78) dX0_fill_52 (by decide) rfl (fun c => ?_) (fun c => ?_)
    · have K := K.1 c
      exact zw_return dX0_fill_78 rfl (Nat.le_refl 0) (Nat.le_refl 0) ⟨rfl, rfl, K⟩
    · have K := K.2 c
      refine zw_aload_n 0 dX0_fill_55 rfl rfl rfl ?_
      refine zw_iload_n 2 dX0_fill_56 rfl rfl rfl ?_
      obtain ⟨q1, ct, K⟩ := K
      refine zw_callV (n := 1) (As := [.int v3]) (rest := []) ct my_X0_enter rfl rfl k_X0_48 i_X0_enter s_X0_enter zs_27 rfl dX0_fill_57 (by decide) (Nat.le_of_ble_eq_true rfl) (Nat.le_refl 0) (Nat.le_refl 0) rfl (fun r s1 h1 hq => ?_)
      obtain ⟨rfl, rfl, hq⟩ := hq
      have K := K h1 hq
      refine zw.st (st' := []) rfl ?_
      refine zw_aload_n 0 dX0_fill_60 rfl rfl rfl ?_
      refine zw_iload_n 2 dX0_fill_61 rfl rfl rfl ?_
      refine zw_iconst (v := (1 : Int32)) dX0_fill_62 (by decide) rfl ?_
      refine zw_iadd dX0_fill_63 rfl ?_
      refine zw_putI f_X0_52 cl_X0 rfl ⟨rfl, rfl⟩ dX0_fill_64 zs_27 rfl rfl ?_
      generalize e2 : zw_sI h1 27 8 (v3 + (1 : Int32)) = h2
      have K := K h2 e2.symm
      refine zw_aload_n 0 dX0_fill_67 rfl rfl rfl ?_
      obtain ⟨q3, ct, K⟩ := K
      refine zw_callV (n := 0) (As := []) (rest := []) ct my_X0_advance rfl rfl k_X0_55 i_X0_advance s_X0_advance zs_27 rfl dX0_fill_68 (by decide) (Nat.le_of_ble_eq_true rfl) (Nat.le_refl 0) (Nat.le_refl 0) rfl (fun r s1 h3 hq => ?_)
      obtain ⟨x3, rfl, rfl, hq⟩ := hq
      have K := K x3 h3 hq
      refine zw.st (st' := [.int x3]) rfl ?_
      refine zw_istore_n dX0_fill_71 rfl (by decide) rfl rfl ?_
      refine zw_iinc (v := (v3 + (1 : Int32))) 2 dX0_fill_72 rfl rfl (by decide) rfl rfl ?_
      refine zw_goto (np := 44) dX0_fill_75 (by decide) ?_
      exact zw.sub [2, 1, 0] rfl K

set_option maxRecDepth 100000 in
set_option maxHeartbeats 4000000 in
theorem rX0_enter_0 {q : zw_H → Prop} {h : zw_H} {v1 : Int32} (K : (∃ q1 : Int32 → zw_H → Prop, zcI 0 mX0_pairsOfGrowth [.ref 27] h q1 ∧ (∀ (x1 : Int32) (h1 : zw_H), q1 x1 h1 → (∃ j2 : Nat, v1 = nI j2 ∧ j2 < 203 ∧ ∀ h3 : zw_H, h3 = zw_sI h1 28 j2 x1 → (∃ j4 : Nat, v1 = nI j4 ∧ j4 < 203 ∧ (∃ q5 : zw_H → Prop, zcV 2 mX3_spell [.ref 34, .int (h3.1 28 j4), .int (h3.1 27 7)] h3 q5 ∧ (∀ h5 : zw_H, q5 h5 → (∃ q6 : Int32 → zw_H → Prop, zcI 0 mX3_growthNumber [.ref 34] h5 q6 ∧ (∀ (x6 : Int32) (h6 : zw_H), q6 x6 h6 → (∃ j7 : Nat, v1 = nI j7 ∧ j7 < 203 ∧ ∀ h8 : zw_H, h8 = zw_sI h6 29 j7 x6 → (∃ q9 : Int32 → zw_H → Prop, zcI 1 mX3_sizeSet [.ref 34] h8 q9 ∧ (∀ (x9 : Int32) (h9 : zw_H), q9 x9 h9 → (∃ j10 : Nat, v1 = nI j10 ∧ j10 < 203 ∧ ∀ h11 : zw_H, h11 = zw_sI h9 30 j10 x9 → (∃ j12 : Nat, v1 = nI j12 ∧ j12 < 203 ∧ ∀ h13 : zw_H, h13 = zw_sI h11 31 j12 (h11.1 34 3) → (∃ q14 : Int32 → zw_H → Prop, zcI 1 mX3_firstCrossing [.ref 34] h13 q14 ∧ (∀ (x14 : Int32) (h14 : zw_H), q14 x14 h14 → ((x14 = (-9 : Int32) → (∃ j15 : Nat, v1 = nI j15 ∧ j15 < 203 ∧ ∀ h16 : zw_H, h16 = zw_sI h14 32 j15 (0 : Int32) → q h16)) ∧ (¬ x14 = (-9 : Int32) → (∃ j17 : Nat, v1 = nI j17 ∧ j17 < 203 ∧ ∀ h18 : zw_H, h18 = zw_sI h14 32 j17 (1 : Int32) → q h18))))))))))))))))))) : zwV 3 mX0_enter q 0 [(0, .ref 27), (1, .int v1)] [] h := by
  refine zw_aload_n 0 dX0_enter_0 rfl rfl rfl ?_
  refine zw_getR f_X0_9 dX0_enter_1 zs_27 rfl rfl ?_
  refine zw_iload_n 1 dX0_enter_4 rfl rfl rfl ?_
  refine zw_aload_n 0 dX0_enter_5 rfl rfl rfl ?_
  obtain ⟨q1, ct, K⟩ := K
  refine zw_callV (n := 0) (As := []) (rest := [.int v1, .ref 28]) ct my_X0_pairsOfGrowth rfl rfl k_X0_59 i_X0_pairsOfGrowth s_X0_pairsOfGrowth zs_27 rfl dX0_enter_6 (by decide) (Nat.le_of_ble_eq_true rfl) (Nat.le_refl 0) (Nat.le_refl 0) rfl (fun r s1 h1 hq => ?_)
  obtain ⟨x1, rfl, rfl, hq⟩ := hq
  have K := K x1 h1 hq
  refine zw.st (st' := [.int x1, .int v1, .ref 28]) rfl ?_
  obtain ⟨j2, hj2, hn2, K⟩ := K
  refine zw_iast j2 dX0_enter_9 zs_28 ⟨hj2, hn2⟩ (by decide) rfl ?_
  generalize e3 : zw_sI h1 28 j2 x1 = h3
  have K := K h3 e3.symm
  refine zw_aload_n 0 dX0_enter_10 rfl rfl rfl ?_
  refine zw_getR f_X0_34 dX0_enter_11 zs_27 rfl rfl ?_
  refine zw_aload_n 0 dX0_enter_14 rfl rfl rfl ?_
  refine zw_getR f_X0_9 dX0_enter_15 zs_27 rfl rfl ?_
  refine zw_iload_n 1 dX0_enter_18 rfl rfl rfl ?_
  obtain ⟨j4, hj4, hn4, K⟩ := K
  refine zw_iald j4 dX0_enter_19 zs_28 ⟨hj4, hn4⟩ (by decide) rfl ?_
  refine zw_aload_n 0 dX0_enter_20 rfl rfl rfl ?_
  refine zw_getI f_X0_38 dX0_enter_21 zs_27 rfl rfl ?_
  obtain ⟨q5, ct, K⟩ := K
  refine zw_callV (n := 2) (As := [.int (h3.1 28 j4), .int (h3.1 27 7)]) (rest := []) ct my_X3_spell rfl rfl k_X0_63 i_X3_spell s_X3_spell zs_34 rfl dX0_enter_24 (by decide) (Nat.le_of_ble_eq_true rfl) (Nat.le_refl 0) (Nat.le_refl 0) rfl (fun r s1 h5 hq => ?_)
  obtain ⟨rfl, rfl, hq⟩ := hq
  have K := K h5 hq
  refine zw.st (st' := []) rfl ?_
  refine zw_aload_n 0 dX0_enter_27 rfl rfl rfl ?_
  refine zw_getR f_X0_15 dX0_enter_28 zs_27 rfl rfl ?_
  refine zw_iload_n 1 dX0_enter_31 rfl rfl rfl ?_
  refine zw_aload_n 0 dX0_enter_32 rfl rfl rfl ?_
  refine zw_getR f_X0_34 dX0_enter_33 zs_27 rfl rfl ?_
  obtain ⟨q6, ct, K⟩ := K
  refine zw_callV (n := 0) (As := []) (rest := [.int v1, .ref 29]) ct my_X3_growthNumber rfl rfl k_X0_67 i_X3_growthNumber s_X3_growthNumber zs_34 rfl dX0_enter_36 (by decide) (Nat.le_of_ble_eq_true rfl) (Nat.le_refl 0) (Nat.le_refl 0) rfl (fun r s1 h6 hq => ?_)
  obtain ⟨x6, rfl, rfl, hq⟩ := hq
  have K := K x6 h6 hq
  refine zw.st (st' := [.int x6, .int v1, .ref 29]) rfl ?_
  obtain ⟨j7, hj7, hn7, K⟩ := K
  refine zw_iast j7 dX0_enter_39 zs_29 ⟨hj7, hn7⟩ (by decide) rfl ?_
  generalize e8 : zw_sI h6 29 j7 x6 = h8
  have K := K h8 e8.symm
  refine zw_aload_n 0 dX0_enter_40 rfl rfl rfl ?_
  refine zw_getR f_X0_18 dX0_enter_41 zs_27 rfl rfl ?_
  refine zw_iload_n 1 dX0_enter_44 rfl rfl rfl ?_
  refine zw_aload_n 0 dX0_enter_45 rfl rfl rfl ?_
  refine zw_getR f_X0_34 dX0_enter_46 zs_27 rfl rfl ?_
  obtain ⟨q9, ct, K⟩ := K
  refine zw_callV (n := 0) (As := []) (rest := [.int v1, .ref 30]) ct my_X3_sizeSet rfl rfl k_X0_70 i_X3_sizeSet s_X3_sizeSet zs_34 rfl dX0_enter_49 (by decide) (Nat.le_of_ble_eq_true rfl) (Nat.le_refl 0) (Nat.le_refl 0) rfl (fun r s1 h9 hq => ?_)
  obtain ⟨x9, rfl, rfl, hq⟩ := hq
  have K := K x9 h9 hq
  refine zw.st (st' := [.int x9, .int v1, .ref 30]) rfl ?_
  obtain ⟨j10, hj10, hn10, K⟩ := K
  refine zw_iast j10 dX0_enter_52 zs_30 ⟨hj10, hn10⟩ (by decide) rfl ?_
  generalize e11 : zw_sI h9 30 j10 x9 = h11
  have K := K h11 e11.symm
  refine zw_aload_n 0 dX0_enter_53 rfl rfl rfl ?_
  refine zw_getR f_X0_21 dX0_enter_54 zs_27 rfl rfl ?_
  refine zw_iload_n 1 dX0_enter_57 rfl rfl rfl ?_
  refine zw_aload_n 0 dX0_enter_58 rfl rfl rfl ?_
  refine zw_getR f_X0_34 dX0_enter_59 zs_27 rfl rfl ?_
  refine zw_getI f_X0_73 dX0_enter_62 zs_34 rfl rfl ?_
  obtain ⟨j12, hj12, hn12, K⟩ := K
  refine zw_iast j12 dX0_enter_65 zs_31 ⟨hj12, hn12⟩ (by decide) rfl ?_
  generalize e13 : zw_sI h11 31 j12 (h11.1 34 3) = h13
  have K := K h13 e13.symm
  refine zw_aload_n 0 dX0_enter_66 rfl rfl rfl ?_
  refine zw_getR f_X0_24 dX0_enter_67 zs_27 rfl rfl ?_
  refine zw_iload_n 1 dX0_enter_70 rfl rfl rfl ?_
  refine zw_aload_n 0 dX0_enter_71 rfl rfl rfl ?_
  refine zw_getR f_X0_34 dX0_enter_72 zs_27 rfl rfl ?_
  obtain ⟨q14, ct, K⟩ := K
  refine zw_callV (n := 0) (As := []) (rest := [.int v1, .ref 32]) ct my_X3_firstCrossing rfl rfl k_X0_76 i_X3_firstCrossing s_X3_firstCrossing zs_34 rfl dX0_enter_75 (by decide) (Nat.le_of_ble_eq_true rfl) (Nat.le_refl 0) (Nat.le_refl 0) rfl (fun r s1 h14 hq => ?_)
  obtain ⟨x14, rfl, rfl, hq⟩ := hq
  have K := K x14 h14 hq
  refine zw.st (st' := [.int x14, .int v1, .ref 32]) rfl ?_
  refine zw_bipush (v := (-9 : Int32)) dX0_enter_78 (by decide) rfl ?_
  refine zw_icmp_eq (tg := 87) dX0_enter_80 (by decide) rfl (fun c => ?_) (fun c => ?_)
  · have K := K.1 c
    refine zw_iconst (v := (0 : Int32)) dX0_enter_87 (by decide) rfl ?_
    obtain ⟨j15, hj15, hn15, K⟩ := K
    refine zw_zast j15 dX0_enter_88 zs_32 ⟨hj15, hn15⟩ (by decide) rfl rfl ?_
    generalize e16 : zw_sI h14 32 j15 (0 : Int32) = h16
    have K := K h16 e16.symm
    exact zw_return dX0_enter_89 rfl (Nat.le_refl 0) (Nat.le_refl 0) ⟨rfl, rfl, K⟩
  · have K := K.2 c
    refine zw_iconst (v := (1 : Int32)) dX0_enter_83 (by decide) rfl ?_
    refine zw_goto (np := 88) dX0_enter_84 (by decide) ?_
    obtain ⟨j17, hj17, hn17, K⟩ := K
    refine zw_zast j17 dX0_enter_88 zs_32 ⟨hj17, hn17⟩ (by decide) rfl rfl ?_
    generalize e18 : zw_sI h14 32 j17 (1 : Int32) = h18
    have K := K h18 e18.symm
    exact zw_return dX0_enter_89 rfl (Nat.le_refl 0) (Nat.le_refl 0) ⟨rfl, rfl, K⟩

set_option maxRecDepth 100000 in
set_option maxHeartbeats 4000000 in
theorem rX0_pairsOfGrowth_0 {q : Int32 → zw_H → Prop} {h : zw_H} (K : zwI 0 mX0_pairsOfGrowth q 4 [(0, .ref 27), (1, .int (0 : Int32)), (2, .int (0 : Int32))] [] h) : zwI 0 mX0_pairsOfGrowth q 0 [(0, .ref 27)] [] h := by
  refine zw_iconst (v := (0 : Int32)) dX0_pairsOfGrowth_0 (by decide) rfl ?_
  refine zw_istore_n dX0_pairsOfGrowth_1 rfl (by decide) rfl rfl ?_
  refine zw_iconst (v := (0 : Int32)) dX0_pairsOfGrowth_2 (by decide) rfl ?_
  refine zw_istore_n dX0_pairsOfGrowth_3 rfl (by decide) rfl rfl ?_
  exact zw.sub [2, 1, 0] rfl K

set_option maxRecDepth 100000 in
set_option maxHeartbeats 4000000 in
theorem rX0_pairsOfGrowth_4 {q : Int32 → zw_H → Prop} {h : zw_H} {v1 v2 : Int32} (K : (((15 : Int32) ≤ v2 → q v1 h) ∧ (¬ (15 : Int32) ≤ v2 → (∃ j1 : Nat, v2 = nI j1 ∧ j1 < 15 ∧ (((h.1 27 7) ≤ (zw_great j1) → zwI 0 mX0_pairsOfGrowth q 4 [(0, .ref 27), (1, .int v1), (2, .int (v2 + (1 : Int32)))] [] h) ∧ (¬ (h.1 27 7) ≤ (zw_great j1) → (∃ j2 : Nat, v2 = nI j2 ∧ j2 < 15 ∧ (∃ j3 : Nat, (zw_small j2) = nI j3 ∧ j3 < 6 ∧ (∃ j4 : Nat, v2 = nI j4 ∧ j4 < 15 ∧ (∃ j5 : Nat, (zw_great j4) = nI j5 ∧ j5 < 6 ∧ ((¬ (h.1 33 j3) = (h.1 33 j5) → zwI 0 mX0_pairsOfGrowth q 4 [(0, .ref 27), (1, .int v1), (2, .int (v2 + (1 : Int32)))] [] h) ∧ ((h.1 33 j3) = (h.1 33 j5) → zwI 0 mX0_pairsOfGrowth q 4 [(0, .ref 27), (1, .int (v1 ||| ((1 : Int32) <<< (v2 &&& 31)))), (2, .int (v2 + (1 : Int32)))] [] h)))))))))))) : zwI 0 mX0_pairsOfGrowth q 4 [(0, .ref 27), (1, .int v1), (2, .int v2)] [] h := by
  refine zw_iload_n 2 dX0_pairsOfGrowth_4 rfl rfl rfl ?_
  refine zw_bipush (v := (15 : Int32)) dX0_pairsOfGrowth_5 (by decide) rfl ?_
  refine zw_icmp_ge (tg := 57) dX0_pairsOfGrowth_7 (by decide) rfl (fun c => ?_) (fun c => ?_)
  · have K := K.1 c
    refine zw_iload_n 1 dX0_pairsOfGrowth_57 rfl rfl rfl ?_
    exact zw_ireturn (ty := .int) dX0_pairsOfGrowth_58 rfl rfl (Nat.le_refl 0) (Nat.le_refl 0) ⟨_, rfl, rfl, K⟩
  · have K := K.2 c
    refine zw_getG g_X0_79 dX0_pairsOfGrowth_10 rfl ?_
    refine zw_iload_n 2 dX0_pairsOfGrowth_13 rfl rfl rfl ?_
    obtain ⟨j1, hj1, hn1, K⟩ := K
    refine zw_ialdG j1 dX0_pairsOfGrowth_14 ⟨hj1, hn1⟩ rfl ?_
    refine zw_aload_n 0 dX0_pairsOfGrowth_15 rfl rfl rfl ?_
    refine zw_getI f_X0_38 dX0_pairsOfGrowth_16 zs_27 rfl rfl ?_
    refine zw_icmp_ge (tg := 51) dX0_pairsOfGrowth_19 (by decide) rfl (fun c => ?_) (fun c => ?_)
    · have K := K.1 c
      refine zw_iinc (v := (v2 + (1 : Int32))) 2 dX0_pairsOfGrowth_51 rfl rfl (by decide) rfl rfl ?_
      refine zw_goto (np := 4) dX0_pairsOfGrowth_54 (by decide) ?_
      exact zw.sub [1, 2, 0] rfl K
    · have K := K.2 c
      refine zw_aload_n 0 dX0_pairsOfGrowth_22 rfl rfl rfl ?_
      refine zw_getR f_X0_28 dX0_pairsOfGrowth_23 zs_27 rfl rfl ?_
      refine zw_getS g_X0_82 dX0_pairsOfGrowth_26 rfl ?_
      refine zw_iload_n 2 dX0_pairsOfGrowth_29 rfl rfl rfl ?_
      obtain ⟨j2, hj2, hn2, K⟩ := K
      refine zw_ialdS j2 dX0_pairsOfGrowth_30 ⟨hj2, hn2⟩ rfl ?_
      obtain ⟨j3, hj3, hn3, K⟩ := K
      refine zw_iald j3 dX0_pairsOfGrowth_31 zs_33 ⟨hj3, hn3⟩ (by decide) rfl ?_
      refine zw_aload_n 0 dX0_pairsOfGrowth_32 rfl rfl rfl ?_
      refine zw_getR f_X0_28 dX0_pairsOfGrowth_33 zs_27 rfl rfl ?_
      refine zw_getG g_X0_79 dX0_pairsOfGrowth_36 rfl ?_
      refine zw_iload_n 2 dX0_pairsOfGrowth_39 rfl rfl rfl ?_
      obtain ⟨j4, hj4, hn4, K⟩ := K
      refine zw_ialdG j4 dX0_pairsOfGrowth_40 ⟨hj4, hn4⟩ rfl ?_
      obtain ⟨j5, hj5, hn5, K⟩ := K
      refine zw_iald j5 dX0_pairsOfGrowth_41 zs_33 ⟨hj5, hn5⟩ (by decide) rfl ?_
      refine zw_icmp_ne (tg := 51) dX0_pairsOfGrowth_42 (by decide) rfl (fun c => ?_) (fun c => ?_)
      · have K := K.1 c
        refine zw_iinc (v := (v2 + (1 : Int32))) 2 dX0_pairsOfGrowth_51 rfl rfl (by decide) rfl rfl ?_
        refine zw_goto (np := 4) dX0_pairsOfGrowth_54 (by decide) ?_
        exact zw.sub [1, 2, 0] rfl K
      · have K := K.2 c
        refine zw_iload_n 1 dX0_pairsOfGrowth_45 rfl rfl rfl ?_
        refine zw_iconst (v := (1 : Int32)) dX0_pairsOfGrowth_46 (by decide) rfl ?_
        refine zw_iload_n 2 dX0_pairsOfGrowth_47 rfl rfl rfl ?_
        refine zw_ishl dX0_pairsOfGrowth_48 rfl ?_
        refine zw_ior dX0_pairsOfGrowth_49 rfl ?_
        refine zw_istore_n dX0_pairsOfGrowth_50 rfl (by decide) rfl rfl ?_
        refine zw_iinc (v := (v2 + (1 : Int32))) 2 dX0_pairsOfGrowth_51 rfl rfl (by decide) rfl rfl ?_
        refine zw_goto (np := 4) dX0_pairsOfGrowth_54 (by decide) ?_
        exact zw.sub [2, 1, 0] rfl K

set_option maxRecDepth 100000 in
set_option maxHeartbeats 4000000 in
theorem rX0_advance_0 {q : Int32 → zw_H → Prop} {h : zw_H} (K : zwI 2 mX0_advance q 7 [(0, .ref 27), (1, .int ((h.1 27 7) - (1 : Int32)))] [] h) : zwI 2 mX0_advance q 0 [(0, .ref 27)] [] h := by
  refine zw_aload_n 0 dX0_advance_0 rfl rfl rfl ?_
  refine zw_getI f_X0_38 dX0_advance_1 zs_27 rfl rfl ?_
  refine zw_iconst (v := (1 : Int32)) dX0_advance_4 (by decide) rfl ?_
  refine zw_isub dX0_advance_5 rfl ?_
  refine zw_istore_n dX0_advance_6 rfl (by decide) rfl rfl ?_
  exact zw.sub [1, 0] rfl K

set_option maxRecDepth 100000 in
set_option maxHeartbeats 4000000 in
theorem rX0_advance_7 {q : Int32 → zw_H → Prop} {h : zw_H} {v1 : Int32} (K : ((v1 ≤ 0 → q (0 : Int32) h) ∧ (¬ v1 ≤ 0 → (∃ j1 : Nat, v1 = nI j1 ∧ j1 < 6 ∧ (∃ q2 : Int32 → zw_H → Prop, zcI 1 mX0_greatestBefore [.ref 27, .int v1] h q2 ∧ (∀ (x2 : Int32) (h2 : zw_H), q2 x2 h2 → ((x2 < (h.1 33 j1) → (∃ j3 : Nat, v1 = nI j3 ∧ j3 < 6 ∧ ∀ h4 : zw_H, h4 = zw_sI h2 33 j3 (0 : Int32) → zwI 2 mX0_advance q 7 [(0, .ref 27), (1, .int (v1 + (-1 : Int32)))] [] h4)) ∧ (¬ x2 < (h.1 33 j1) → (∃ j5 : Nat, v1 = nI j5 ∧ j5 < 6 ∧ (∃ j6 : Nat, v1 = nI j6 ∧ j6 < 6 ∧ ∀ h7 : zw_H, h7 = zw_sI h2 33 j6 ((h2.1 33 j5) + (1 : Int32)) → q (1 : Int32) h7)))))))))) : zwI 2 mX0_advance q 7 [(0, .ref 27), (1, .int v1)] [] h := by
  refine zw_iload_n 1 dX0_advance_7 rfl rfl rfl ?_
  refine zw_if_le (tg := 50) dX0_advance_8 (by decide) rfl (fun c => ?_) (fun c => ?_)
  · have K := K.1 c
    refine zw_iconst (v := (0 : Int32)) dX0_advance_50 (by decide) rfl ?_
    exact zw_ireturn (ty := .boolean) dX0_advance_51 rfl rfl (Nat.le_refl 0) (Nat.le_refl 0) ⟨_, rfl, rfl, K⟩
  · have K := K.2 c
    refine zw_aload_n 0 dX0_advance_11 rfl rfl rfl ?_
    refine zw_getR f_X0_28 dX0_advance_12 zs_27 rfl rfl ?_
    refine zw_iload_n 1 dX0_advance_15 rfl rfl rfl ?_
    obtain ⟨j1, hj1, hn1, K⟩ := K
    refine zw_iald j1 dX0_advance_16 zs_33 ⟨hj1, hn1⟩ (by decide) rfl ?_
    refine zw_aload_n 0 dX0_advance_17 rfl rfl rfl ?_
    refine zw_iload_n 1 dX0_advance_18 rfl rfl rfl ?_
    obtain ⟨q2, ct, K⟩ := K
    refine zw_callV (n := 1) (As := [.int v1]) (rest := [.int (h.1 33 j1)]) ct my_X0_greatestBefore rfl rfl k_X0_85 i_X0_greatestBefore s_X0_greatestBefore zs_27 rfl dX0_advance_19 (by decide) (Nat.le_of_ble_eq_true rfl) (Nat.le_refl 0) (Nat.le_refl 0) rfl (fun r s1 h2 hq => ?_)
    obtain ⟨x2, rfl, rfl, hq⟩ := hq
    have K := K x2 h2 hq
    refine zw.st (st' := [.int x2, .int (h.1 33 j1)]) rfl ?_
    refine zw_icmp_gt (tg := 37) dX0_advance_22 (by decide) rfl (fun c => ?_) (fun c => ?_)
    · have K := K.1 c
      refine zw_aload_n 0 dX0_advance_37 rfl rfl rfl ?_
      refine zw_getR f_X0_28 dX0_advance_38 zs_27 rfl rfl ?_
      refine zw_iload_n 1 dX0_advance_41 rfl rfl rfl ?_
      refine zw_iconst (v := (0 : Int32)) dX0_advance_42 (by decide) rfl ?_
      obtain ⟨j3, hj3, hn3, K⟩ := K
      refine zw_iast j3 dX0_advance_43 zs_33 ⟨hj3, hn3⟩ (by decide) rfl ?_
      generalize e4 : zw_sI h2 33 j3 (0 : Int32) = h4
      have K := K h4 e4.symm
      refine zw_iinc (v := (v1 + (-1 : Int32))) 1 dX0_advance_44 rfl rfl (by decide) rfl rfl ?_
      refine zw_goto (np := 7) dX0_advance_47 (by decide) ?_
      exact zw.sub [1, 0] rfl K
    · have K := K.2 c
      refine zw_aload_n 0 dX0_advance_25 rfl rfl rfl ?_
      refine zw_getR f_X0_28 dX0_advance_26 zs_27 rfl rfl ?_
      refine zw_iload_n 1 dX0_advance_29 rfl rfl rfl ?_
      refine zw_dup2 dX0_advance_30 rfl rfl rfl ?_
      obtain ⟨j5, hj5, hn5, K⟩ := K
      refine zw_iald j5 dX0_advance_31 zs_33 ⟨hj5, hn5⟩ (by decide) rfl ?_
      refine zw_iconst (v := (1 : Int32)) dX0_advance_32 (by decide) rfl ?_
      refine zw_iadd dX0_advance_33 rfl ?_
      obtain ⟨j6, hj6, hn6, K⟩ := K
      refine zw_iast j6 dX0_advance_34 zs_33 ⟨hj6, hn6⟩ (by decide) rfl ?_
      generalize e7 : zw_sI h2 33 j6 ((h2.1 33 j5) + (1 : Int32)) = h7
      have K := K h7 e7.symm
      refine zw_iconst (v := (1 : Int32)) dX0_advance_35 (by decide) rfl ?_
      exact zw_ireturn (ty := .boolean) dX0_advance_36 rfl rfl (Nat.le_refl 0) (Nat.le_refl 0) ⟨_, rfl, rfl, K⟩

set_option maxRecDepth 100000 in
set_option maxHeartbeats 4000000 in
theorem rX0_greatestBefore_0 {q : Int32 → zw_H → Prop} {h : zw_H} {v1 : Int32} (K : zwI 1 mX0_greatestBefore q 4 [(0, .ref 27), (1, .int v1), (2, .int (0 : Int32)), (3, .int (0 : Int32))] [] h) : zwI 1 mX0_greatestBefore q 0 [(0, .ref 27), (1, .int v1)] [] h := by
  refine zw_iconst (v := (0 : Int32)) dX0_greatestBefore_0 (by decide) rfl ?_
  refine zw_istore_n dX0_greatestBefore_1 rfl (by decide) rfl rfl ?_
  refine zw_iconst (v := (0 : Int32)) dX0_greatestBefore_2 (by decide) rfl ?_
  refine zw_istore_n dX0_greatestBefore_3 rfl (by decide) rfl rfl ?_
  exact zw.sub [2, 3, 1, 0] rfl K

set_option maxRecDepth 100000 in
set_option maxHeartbeats 4000000 in
theorem rX0_greatestBefore_4 {q : Int32 → zw_H → Prop} {h : zw_H} {v1 v2 v3 : Int32} (K : ((v1 ≤ v3 → q v2 h) ∧ (¬ v1 ≤ v3 → (∃ j1 : Nat, v3 = nI j1 ∧ j1 < 6 ∧ zwI 1 mX0_greatestBefore q 4 [(0, .ref 27), (1, .int v1), (2, .int (zmax v2 (h.1 33 j1))), (3, .int (v3 + (1 : Int32)))] [] h)))) : zwI 1 mX0_greatestBefore q 4 [(0, .ref 27), (1, .int v1), (2, .int v2), (3, .int v3)] [] h := by
  refine zw_iload_n 3 dX0_greatestBefore_4 rfl rfl rfl ?_
  refine zw_iload_n 1 dX0_greatestBefore_5 rfl rfl rfl ?_
  refine zw_icmp_ge (tg := 26) dX0_greatestBefore_6 (by decide) rfl (fun c => ?_) (fun c => ?_)
  · have K := K.1 c
    refine zw_iload_n 2 dX0_greatestBefore_26 rfl rfl rfl ?_
    exact zw_ireturn (ty := .int) dX0_greatestBefore_27 rfl rfl (Nat.le_refl 0) (Nat.le_refl 0) ⟨_, rfl, rfl, K⟩
  · have K := K.2 c
    refine zw_iload_n 2 dX0_greatestBefore_9 rfl rfl rfl ?_
    refine zw_aload_n 0 dX0_greatestBefore_10 rfl rfl rfl ?_
    refine zw_getR f_X0_28 dX0_greatestBefore_11 zs_27 rfl rfl ?_
    refine zw_iload_n 3 dX0_greatestBefore_14 rfl rfl rfl ?_
    obtain ⟨j1, hj1, hn1, K⟩ := K
    refine zw_iald j1 dX0_greatestBefore_15 zs_33 ⟨hj1, hn1⟩ (by decide) rfl ?_
    refine zw_max k_X0_89 dX0_greatestBefore_16 (by decide) (Nat.le_of_ble_eq_true rfl) (Nat.le_refl 0) (Nat.le_refl 0) rfl ?_
    refine zw_istore_n dX0_greatestBefore_19 rfl (by decide) rfl rfl ?_
    refine zw_iinc (v := (v3 + (1 : Int32))) 3 dX0_greatestBefore_20 rfl rfl (by decide) rfl rfl ?_
    refine zw_goto (np := 4) dX0_greatestBefore_23 (by decide) ?_
    exact zw.sub [2, 3, 1, 0] rfl K

set_option maxRecDepth 100000 in
set_option maxHeartbeats 4000000 in
theorem rX0_closure_0 {q : Int32 → zw_H → Prop} {h : zw_H} {v1 : Int32} (K : zwI 1 mX0_closure q 7 [(0, .ref 27), (1, .int v1), (2, .int ((h.1 27 8) - (1 : Int32)))] [] h) : zwI 1 mX0_closure q 0 [(0, .ref 27), (1, .int v1)] [] h := by
  refine zw_aload_n 0 dX0_closure_0 rfl rfl rfl ?_
  refine zw_getI f_X0_52 dX0_closure_1 zs_27 rfl rfl ?_
  refine zw_iconst (v := (1 : Int32)) dX0_closure_4 (by decide) rfl ?_
  refine zw_isub dX0_closure_5 rfl ?_
  refine zw_istore_n dX0_closure_6 rfl (by decide) rfl rfl ?_
  exact zw.sub [1, 2, 0] rfl K

set_option maxRecDepth 100000 in
set_option maxHeartbeats 4000000 in
theorem rX0_closure_7 {q : Int32 → zw_H → Prop} {h : zw_H} {v1 v2 : Int32} (K : ((v2 < 0 → (∃ q1 : Int32 → zw_H → Prop, zcI 0 mX7_allPairs [.int (h.1 27 7)] h q1 ∧ (∀ (x1 : Int32) (h1 : zw_H), q1 x1 h1 → q x1 h1))) ∧ (¬ v2 < 0 → (∃ j2 : Nat, v2 = nI j2 ∧ j2 < 203 ∧ (∃ q3 : Int32 → zw_H → Prop, zcI 0 mX7_isBelow [.int v1, .int (h.1 28 j2)] h q3 ∧ (∀ (x3 : Int32) (h3 : zw_H), q3 x3 h3 → ((x3 = 0 → zwI 1 mX0_closure q 7 [(0, .ref 27), (1, .int v1), (2, .int (v2 + (-1 : Int32)))] [] h3) ∧ (¬ x3 = 0 → (∃ j4 : Nat, v2 = nI j4 ∧ j4 < 203 ∧ q (h3.1 28 j4) h3))))))))) : zwI 1 mX0_closure q 7 [(0, .ref 27), (1, .int v1), (2, .int v2)] [] h := by
  refine zw_iload_n 2 dX0_closure_7 rfl rfl rfl ?_
  refine zw_if_lt (tg := 37) dX0_closure_8 (by decide) rfl (fun c => ?_) (fun c => ?_)
  · have K := K.1 c
    refine zw_aload_n 0 dX0_closure_37 rfl rfl rfl ?_
    refine zw_getI f_X0_38 dX0_closure_38 zs_27 rfl rfl ?_
    obtain ⟨q1, ct, K⟩ := K
    refine zw_callSN (n := 1) (As := [.int (h.1 27 7)]) (rest := []) ct my_X7_allPairs rfl rfl k_X0_96 t_X7_allPairs dX0_closure_41 (by decide) (Nat.le_of_ble_eq_true rfl) (Nat.le_refl 0) (Nat.le_refl 0) rfl (fun r s1 h1 hq => ?_)
    obtain ⟨x1, rfl, rfl, hq⟩ := hq
    have K := K x1 h1 hq
    refine zw.st (st' := [.int x1]) rfl ?_
    exact zw_ireturn (ty := .int) dX0_closure_44 rfl rfl (Nat.le_refl 0) (Nat.le_refl 0) ⟨_, rfl, rfl, K⟩
  · have K := K.2 c
    refine zw_iload_n 1 dX0_closure_11 rfl rfl rfl ?_
    refine zw_aload_n 0 dX0_closure_12 rfl rfl rfl ?_
    refine zw_getR f_X0_9 dX0_closure_13 zs_27 rfl rfl ?_
    refine zw_iload_n 2 dX0_closure_16 rfl rfl rfl ?_
    obtain ⟨j2, hj2, hn2, K⟩ := K
    refine zw_iald j2 dX0_closure_17 zs_28 ⟨hj2, hn2⟩ (by decide) rfl ?_
    obtain ⟨q3, ct, K⟩ := K
    refine zw_callSN (n := 2) (As := [.int v1, .int (h.1 28 j2)]) (rest := []) ct my_X7_isBelow rfl rfl k_X0_92 t_X7_isBelow dX0_closure_18 (by decide) (Nat.le_of_ble_eq_true rfl) (Nat.le_refl 0) (Nat.le_refl 0) rfl (fun r s1 h3 hq => ?_)
    obtain ⟨x3, rfl, rfl, hq⟩ := hq
    have K := K x3 h3 hq
    refine zw.st (st' := [.int x3]) rfl ?_
    refine zw_if_eq (tg := 31) dX0_closure_21 (by decide) rfl (fun c => ?_) (fun c => ?_)
    · have K := K.1 c
      refine zw_iinc (v := (v2 + (-1 : Int32))) 2 dX0_closure_31 rfl rfl (by decide) rfl rfl ?_
      refine zw_goto (np := 7) dX0_closure_34 (by decide) ?_
      exact zw.sub [1, 2, 0] rfl K
    · have K := K.2 c
      refine zw_aload_n 0 dX0_closure_24 rfl rfl rfl ?_
      refine zw_getR f_X0_9 dX0_closure_25 zs_27 rfl rfl ?_
      refine zw_iload_n 2 dX0_closure_28 rfl rfl rfl ?_
      obtain ⟨j4, hj4, hn4, K⟩ := K
      refine zw_iald j4 dX0_closure_29 zs_28 ⟨hj4, hn4⟩ (by decide) rfl ?_
      exact zw_ireturn (ty := .int) dX0_closure_30 rfl rfl (Nat.le_refl 0) (Nat.le_refl 0) ⟨_, rfl, rfl, K⟩

set_option maxRecDepth 100000 in
set_option maxHeartbeats 4000000 in
theorem rX1_remember_0 {q : zw_H → Prop} {h : zw_H} (K : (∃ j1 : Nat, (h.1 3 1) = nI j1 ∧ j1 < 10 ∧ (∃ q2 : zw_H → Prop, zcV 0 mX5_takeFrom [.ref (2 * j1 + 5), .ref 1] h q2 ∧ (∀ h2 : zw_H, q2 h2 → (((10 : Int32) ≤ ((h2.1 3 1) + (1 : Int32)) → (∀ h3 : zw_H, h3 = zw_sI h2 3 1 (0 : Int32) → (∀ h4 : zw_H, h4 = zw_sI h3 3 2 (zmin ((h3.1 3 2) + (1 : Int32)) (10 : Int32)) → q h4))) ∧ (¬ (10 : Int32) ≤ ((h2.1 3 1) + (1 : Int32)) → (∀ h5 : zw_H, h5 = zw_sI h2 3 1 ((h2.1 3 1) + (1 : Int32)) → (∀ h6 : zw_H, h6 = zw_sI h5 3 2 (zmin ((h5.1 3 2) + (1 : Int32)) (10 : Int32)) → q h6)))))))) : zwV 1 mX1_remember q 0 [(0, .ref 3), (1, .ref 1)] [] h := by
  refine zw_aload_n 0 dX1_remember_0 rfl rfl rfl ?_
  refine zw_getR f_X1_11 dX1_remember_1 zs_3 rfl rfl ?_
  refine zw_aload_n 0 dX1_remember_4 rfl rfl rfl ?_
  refine zw_getI f_X1_18 dX1_remember_5 zs_3 rfl rfl ?_
  obtain ⟨j1, hj1, hn1, K⟩ := K
  refine zw_aald j1 dX1_remember_8 zs_4 ⟨hj1, hn1⟩ (by decide) (zs_hf hn1) rfl ?_
  refine zw_aload_n 1 dX1_remember_9 rfl rfl rfl ?_
  obtain ⟨q2, ct, K⟩ := K
  refine zw_callV (n := 1) (As := [.ref 1]) (rest := []) ct my_X5_takeFrom rfl rfl k_X1_22 i_X5_takeFrom s_X5_takeFrom (zs_hS hn1) rfl dX1_remember_10 (by decide) (Nat.le_of_ble_eq_true rfl) (Nat.le_refl 0) (Nat.le_refl 0) rfl (fun r s1 h2 hq => ?_)
  obtain ⟨rfl, rfl, hq⟩ := hq
  have K := K h2 hq
  refine zw.st (st' := []) rfl ?_
  refine zw_aload_n 0 dX1_remember_13 rfl rfl rfl ?_
  refine zw_aload_n 0 dX1_remember_14 rfl rfl rfl ?_
  refine zw_getI f_X1_18 dX1_remember_15 zs_3 rfl rfl ?_
  refine zw_iconst (v := (1 : Int32)) dX1_remember_18 (by decide) rfl ?_
  refine zw_iadd dX1_remember_19 rfl ?_
  refine zw_bipush (v := (10 : Int32)) dX1_remember_20 (by decide) rfl ?_
  refine zw_icmp_ge (tg := 34) dX1_remember_22 (by decide) rfl (fun c => ?_) (fun c => ?_)
  · have K := K.1 c
    refine zw_iconst (v := (0 : Int32)) dX1_remember_34 (by decide) rfl ?_
    refine zw_putI f_X1_18 cl_X1 rfl ⟨rfl, rfl⟩ dX1_remember_35 zs_3 rfl rfl ?_
    generalize e3 : zw_sI h2 3 1 (0 : Int32) = h3
    have K := K h3 e3.symm
    refine zw_aload_n 0 dX1_remember_38 rfl rfl rfl ?_
    refine zw_aload_n 0 dX1_remember_39 rfl rfl rfl ?_
    refine zw_getI f_X1_26 dX1_remember_40 zs_3 rfl rfl ?_
    refine zw_iconst (v := (1 : Int32)) dX1_remember_43 (by decide) rfl ?_
    refine zw_iadd dX1_remember_44 rfl ?_
    refine zw_bipush (v := (10 : Int32)) dX1_remember_45 (by decide) rfl ?_
    refine zw_min k_X1_29 dX1_remember_47 (by decide) (Nat.le_of_ble_eq_true rfl) (Nat.le_refl 0) (Nat.le_refl 0) rfl ?_
    refine zw_putI f_X1_26 cl_X1 rfl ⟨rfl, rfl⟩ dX1_remember_50 zs_3 rfl rfl ?_
    generalize e4 : zw_sI h3 3 2 (zmin ((h3.1 3 2) + (1 : Int32)) (10 : Int32)) = h4
    have K := K h4 e4.symm
    exact zw_return dX1_remember_53 rfl (Nat.le_refl 0) (Nat.le_refl 0) ⟨rfl, rfl, K⟩
  · have K := K.2 c
    refine zw_aload_n 0 dX1_remember_25 rfl rfl rfl ?_
    refine zw_getI f_X1_18 dX1_remember_26 zs_3 rfl rfl ?_
    refine zw_iconst (v := (1 : Int32)) dX1_remember_29 (by decide) rfl ?_
    refine zw_iadd dX1_remember_30 rfl ?_
    refine zw_goto (np := 35) dX1_remember_31 (by decide) ?_
    refine zw_putI f_X1_18 cl_X1 rfl ⟨rfl, rfl⟩ dX1_remember_35 zs_3 rfl rfl ?_
    generalize e5 : zw_sI h2 3 1 ((h2.1 3 1) + (1 : Int32)) = h5
    have K := K h5 e5.symm
    refine zw_aload_n 0 dX1_remember_38 rfl rfl rfl ?_
    refine zw_aload_n 0 dX1_remember_39 rfl rfl rfl ?_
    refine zw_getI f_X1_26 dX1_remember_40 zs_3 rfl rfl ?_
    refine zw_iconst (v := (1 : Int32)) dX1_remember_43 (by decide) rfl ?_
    refine zw_iadd dX1_remember_44 rfl ?_
    refine zw_bipush (v := (10 : Int32)) dX1_remember_45 (by decide) rfl ?_
    refine zw_min k_X1_29 dX1_remember_47 (by decide) (Nat.le_of_ble_eq_true rfl) (Nat.le_refl 0) (Nat.le_refl 0) rfl ?_
    refine zw_putI f_X1_26 cl_X1 rfl ⟨rfl, rfl⟩ dX1_remember_50 zs_3 rfl rfl ?_
    generalize e6 : zw_sI h5 3 2 (zmin ((h5.1 3 2) + (1 : Int32)) (10 : Int32)) = h6
    have K := K h6 e6.symm
    exact zw_return dX1_remember_53 rfl (Nat.le_refl 0) (Nat.le_refl 0) ⟨rfl, rfl, K⟩

set_option maxRecDepth 100000 in
set_option maxHeartbeats 4000000 in
theorem rX1_restore_0 {q : Int32 → zw_H → Prop} {h : zw_H} (K : ((¬ (h.1 3 2) = 0 → (((h.1 3 1) ≤ 0 → (∀ h1 : zw_H, h1 = zw_sI h 3 1 (9 : Int32) → (∀ h2 : zw_H, h2 = zw_sI h1 3 2 ((h1.1 3 2) - (1 : Int32)) → (∃ j3 : Nat, (h2.1 3 1) = nI j3 ∧ j3 < 10 ∧ (∃ q4 : zw_H → Prop, zcV 0 mX5_takeFrom [.ref 1, .ref (2 * j3 + 5)] h2 q4 ∧ (∀ h4 : zw_H, q4 h4 → q (1 : Int32) h4)))))) ∧ (¬ (h.1 3 1) ≤ 0 → (∀ h5 : zw_H, h5 = zw_sI h 3 1 ((h.1 3 1) - (1 : Int32)) → (∀ h6 : zw_H, h6 = zw_sI h5 3 2 ((h5.1 3 2) - (1 : Int32)) → (∃ j7 : Nat, (h6.1 3 1) = nI j7 ∧ j7 < 10 ∧ (∃ q8 : zw_H → Prop, zcV 0 mX5_takeFrom [.ref 1, .ref (2 * j7 + 5)] h6 q8 ∧ (∀ h8 : zw_H, q8 h8 → q (1 : Int32) h8)))))))) ∧ ((h.1 3 2) = 0 → q (0 : Int32) h))) : zwI 1 mX1_restore q 0 [(0, .ref 3), (1, .ref 1)] [] h := by
  refine zw_aload_n 0 dX1_restore_0 rfl rfl rfl ?_
  refine zw_getI f_X1_26 dX1_restore_1 zs_3 rfl rfl ?_
  refine zw_if_ne (tg := 9) dX1_restore_4 (by decide) rfl (fun c => ?_) (fun c => ?_)
  · have K := K.1 c
    refine zw_aload_n 0 dX1_restore_9 rfl rfl rfl ?_
    refine zw_aload_n 0 dX1_restore_10 rfl rfl rfl ?_
    refine zw_getI f_X1_18 dX1_restore_11 zs_3 rfl rfl ?_
    refine zw_if_le (tg := 26) dX1_restore_14 (by decide) rfl (fun c => ?_) (fun c => ?_)
    · have K := K.1 c
      refine zw_bipush (v := (9 : Int32)) dX1_restore_26 (by decide) rfl ?_
      refine zw_putI f_X1_18 cl_X1 rfl ⟨rfl, rfl⟩ dX1_restore_28 zs_3 rfl rfl ?_
      generalize e1 : zw_sI h 3 1 (9 : Int32) = h1
      have K := K h1 e1.symm
      refine zw_aload_n 0 dX1_restore_31 rfl rfl rfl ?_
      refine zw_dup dX1_restore_32 rfl rfl ?_
      refine zw_getI f_X1_26 dX1_restore_33 zs_3 rfl rfl ?_
      refine zw_iconst (v := (1 : Int32)) dX1_restore_36 (by decide) rfl ?_
      refine zw_isub dX1_restore_37 rfl ?_
      refine zw_putI f_X1_26 cl_X1 rfl ⟨rfl, rfl⟩ dX1_restore_38 zs_3 rfl rfl ?_
      generalize e2 : zw_sI h1 3 2 ((h1.1 3 2) - (1 : Int32)) = h2
      have K := K h2 e2.symm
      refine zw_aload_n 1 dX1_restore_41 rfl rfl rfl ?_
      refine zw_aload_n 0 dX1_restore_42 rfl rfl rfl ?_
      refine zw_getR f_X1_11 dX1_restore_43 zs_3 rfl rfl ?_
      refine zw_aload_n 0 dX1_restore_46 rfl rfl rfl ?_
      refine zw_getI f_X1_18 dX1_restore_47 zs_3 rfl rfl ?_
      obtain ⟨j3, hj3, hn3, K⟩ := K
      refine zw_aald j3 dX1_restore_50 zs_4 ⟨hj3, hn3⟩ (by decide) (zs_hf hn3) rfl ?_
      obtain ⟨q4, ct, K⟩ := K
      refine zw_callV (n := 1) (As := [.ref (2 * j3 + 5)]) (rest := []) ct my_X5_takeFrom rfl rfl k_X1_22 i_X5_takeFrom s_X5_takeFrom zs_1 rfl dX1_restore_51 (by decide) (Nat.le_of_ble_eq_true rfl) (Nat.le_refl 0) (Nat.le_refl 0) rfl (fun r s1 h4 hq => ?_)
      obtain ⟨rfl, rfl, hq⟩ := hq
      have K := K h4 hq
      refine zw.st (st' := []) rfl ?_
      refine zw_iconst (v := (1 : Int32)) dX1_restore_54 (by decide) rfl ?_
      exact zw_ireturn (ty := .boolean) dX1_restore_55 rfl rfl (Nat.le_refl 0) (Nat.le_refl 0) ⟨_, rfl, rfl, K⟩
    · have K := K.2 c
      refine zw_aload_n 0 dX1_restore_17 rfl rfl rfl ?_
      refine zw_getI f_X1_18 dX1_restore_18 zs_3 rfl rfl ?_
      refine zw_iconst (v := (1 : Int32)) dX1_restore_21 (by decide) rfl ?_
      refine zw_isub dX1_restore_22 rfl ?_
      refine zw_goto (np := 28) dX1_restore_23 (by decide) ?_
      refine zw_putI f_X1_18 cl_X1 rfl ⟨rfl, rfl⟩ dX1_restore_28 zs_3 rfl rfl ?_
      generalize e5 : zw_sI h 3 1 ((h.1 3 1) - (1 : Int32)) = h5
      have K := K h5 e5.symm
      refine zw_aload_n 0 dX1_restore_31 rfl rfl rfl ?_
      refine zw_dup dX1_restore_32 rfl rfl ?_
      refine zw_getI f_X1_26 dX1_restore_33 zs_3 rfl rfl ?_
      refine zw_iconst (v := (1 : Int32)) dX1_restore_36 (by decide) rfl ?_
      refine zw_isub dX1_restore_37 rfl ?_
      refine zw_putI f_X1_26 cl_X1 rfl ⟨rfl, rfl⟩ dX1_restore_38 zs_3 rfl rfl ?_
      generalize e6 : zw_sI h5 3 2 ((h5.1 3 2) - (1 : Int32)) = h6
      have K := K h6 e6.symm
      refine zw_aload_n 1 dX1_restore_41 rfl rfl rfl ?_
      refine zw_aload_n 0 dX1_restore_42 rfl rfl rfl ?_
      refine zw_getR f_X1_11 dX1_restore_43 zs_3 rfl rfl ?_
      refine zw_aload_n 0 dX1_restore_46 rfl rfl rfl ?_
      refine zw_getI f_X1_18 dX1_restore_47 zs_3 rfl rfl ?_
      obtain ⟨j7, hj7, hn7, K⟩ := K
      refine zw_aald j7 dX1_restore_50 zs_4 ⟨hj7, hn7⟩ (by decide) (zs_hf hn7) rfl ?_
      obtain ⟨q8, ct, K⟩ := K
      refine zw_callV (n := 1) (As := [.ref (2 * j7 + 5)]) (rest := []) ct my_X5_takeFrom rfl rfl k_X1_22 i_X5_takeFrom s_X5_takeFrom zs_1 rfl dX1_restore_51 (by decide) (Nat.le_of_ble_eq_true rfl) (Nat.le_refl 0) (Nat.le_refl 0) rfl (fun r s1 h8 hq => ?_)
      obtain ⟨rfl, rfl, hq⟩ := hq
      have K := K h8 hq
      refine zw.st (st' := []) rfl ?_
      refine zw_iconst (v := (1 : Int32)) dX1_restore_54 (by decide) rfl ?_
      exact zw_ireturn (ty := .boolean) dX1_restore_55 rfl rfl (Nat.le_refl 0) (Nat.le_refl 0) ⟨_, rfl, rfl, K⟩
  · have K := K.2 c
    refine zw_iconst (v := (0 : Int32)) dX1_restore_7 (by decide) rfl ?_
    exact zw_ireturn (ty := .boolean) dX1_restore_8 rfl rfl (Nat.le_refl 0) (Nat.le_refl 0) ⟨_, rfl, rfl, K⟩

set_option maxRecDepth 100000 in
set_option maxHeartbeats 4000000 in
theorem rX2_select_0 {q : zw_H → Prop} {h : zw_H} (K : (∀ h1 : zw_H, h1 = zw_sI h 37 5 (0 : Int32) → zwV 1 mX2_select q 7 [(0, .ref 37), (1, .ref 27), (2, .ref 1), (3, .int (0 : Int32))] [] h1)) : zwV 1 mX2_select q 0 [(0, .ref 37), (1, .ref 27), (2, .ref 1)] [] h := by
  refine zw_aload_n 0 dX2_select_0 rfl rfl rfl ?_
  refine zw_iconst (v := (0 : Int32)) dX2_select_1 (by decide) rfl ?_
  refine zw_putI f_X2_27 cl_X2 rfl ⟨rfl, rfl⟩ dX2_select_2 zs_37 rfl rfl ?_
  generalize e1 : zw_sI h 37 5 (0 : Int32) = h1
  have K := K h1 e1.symm
  refine zw_iconst (v := (0 : Int32)) dX2_select_5 (by decide) rfl ?_
  refine zw_istore_n dX2_select_6 rfl (by decide) rfl rfl ?_
  exact zw.sub [1, 2, 3, 0] rfl K

set_option maxRecDepth 100000 in
set_option maxHeartbeats 4000000 in
theorem rX2_select_7 {q : zw_H → Prop} {h : zw_H} {v3 : Int32} (K : (((6 : Int32) < v3 → zwV 1 mX2_select q 28 [(0, .ref 37), (1, .ref 27), (2, .ref 1), (3, .int (0 : Int32))] [] h) ∧ (¬ (6 : Int32) < v3 → (∃ j1 : Nat, v3 = nI j1 ∧ j1 < 7 ∧ ∀ h2 : zw_H, h2 = zw_sI h 41 j1 (0 : Int32) → zwV 1 mX2_select q 7 [(0, .ref 37), (1, .ref 27), (2, .ref 1), (3, .int (v3 + (1 : Int32)))] [] h2)))) : zwV 1 mX2_select q 7 [(0, .ref 37), (1, .ref 27), (2, .ref 1), (3, .int v3)] [] h := by
  refine zw_iload_n 3 dX2_select_7 rfl rfl rfl ?_
  refine zw_bipush (v := (6 : Int32)) dX2_select_8 (by decide) rfl ?_
  refine zw_icmp_gt (tg := 26) dX2_select_10 (by decide) rfl (fun c => ?_) (fun c => ?_)
  · have K := K.1 c
    refine zw_iconst (v := (0 : Int32)) dX2_select_26 (by decide) rfl ?_
    refine zw_istore_n dX2_select_27 rfl (by decide) rfl rfl ?_
    exact zw.sub [1, 2, 3, 0] rfl K
  · have K := K.2 c
    refine zw_aload_n 0 dX2_select_13 rfl rfl rfl ?_
    refine zw_getR f_X2_21 dX2_select_14 zs_37 rfl rfl ?_
    refine zw_iload_n 3 dX2_select_17 rfl rfl rfl ?_
    refine zw_iconst (v := (0 : Int32)) dX2_select_18 (by decide) rfl ?_
    obtain ⟨j1, hj1, hn1, K⟩ := K
    refine zw_iast j1 dX2_select_19 zs_41 ⟨hj1, hn1⟩ (by decide) rfl ?_
    generalize e2 : zw_sI h 41 j1 (0 : Int32) = h2
    have K := K h2 e2.symm
    refine zw_iinc (v := (v3 + (1 : Int32))) 3 dX2_select_20 rfl rfl (by decide) rfl rfl ?_
    refine zw_goto (np := 7) dX2_select_23 (by decide) ?_
    exact zw.sub [1, 2, 3, 0] rfl K

set_option maxRecDepth 100000 in
set_option maxHeartbeats 4000000 in
theorem rX2_select_28 {q : zw_H → Prop} {h : zw_H} {v3 : Int32} (K : (((h.1 27 8) ≤ v3 → q h) ∧ (¬ (h.1 27 8) ≤ v3 → (∃ j1 : Nat, v3 = nI j1 ∧ j1 < 203 ∧ (∃ j2 : Nat, v3 = nI j2 ∧ j2 < 203 ∧ (∃ j3 : Nat, v3 = nI j3 ∧ j3 < 203 ∧ (∃ j4 : Nat, v3 = nI j4 ∧ j4 < 203 ∧ (∃ q5 : Int32 → zw_H → Prop, zcI 0 mX5_reason [.ref 1, .int (h.1 28 j2), .int (h.1 30 j3), .int (h.1 31 j1), .int (h.1 32 j4)] h q5 ∧ (∀ (x5 : Int32) (h5 : zw_H), q5 x5 h5 → ((¬ x5 = 0 → zwV 1 mX2_select q 28 [(0, .ref 37), (1, .ref 27), (2, .ref 1), (3, .int (v3 + (1 : Int32)))] [] h5) ∧ (x5 = 0 → (∃ j6 : Nat, v3 = nI j6 ∧ j6 < 203 ∧ (∃ j7 : Nat, (h5.1 37 5) = nI j7 ∧ j7 < 203 ∧ ∀ h8 : zw_H, h8 = zw_sI h5 38 j7 (h5.1 28 j6) → (∃ j9 : Nat, v3 = nI j9 ∧ j9 < 203 ∧ (∃ j10 : Nat, (h8.1 37 5) = nI j10 ∧ j10 < 203 ∧ ∀ h11 : zw_H, h11 = zw_sI h8 39 j10 (h8.1 29 j9) → (∃ j12 : Nat, (h11.1 37 5) = nI j12 ∧ j12 < 203 ∧ ∀ h13 : zw_H, h13 = zw_sI h11 40 j12 (h.1 31 j1) → (∃ j14 : Nat, (h.1 31 j1) = nI j14 ∧ j14 < 7 ∧ (∃ j15 : Nat, (h.1 31 j1) = nI j15 ∧ j15 < 7 ∧ ∀ h16 : zw_H, h16 = zw_sI h13 41 j15 ((h13.1 41 j14) + (1 : Int32)) → (∀ h17 : zw_H, h17 = zw_sI h16 37 5 ((h16.1 37 5) + (1 : Int32)) → zwV 1 mX2_select q 28 [(0, .ref 37), (1, .ref 27), (2, .ref 1), (3, .int (v3 + (1 : Int32)))] [] h17))))))))))))))))))) : zwV 1 mX2_select q 28 [(0, .ref 37), (1, .ref 27), (2, .ref 1), (3, .int v3)] [] h := by
  refine zw_iload_n 3 dX2_select_28 rfl rfl rfl ?_
  refine zw_aload_n 1 dX2_select_29 rfl rfl rfl ?_
  refine zw_getI f_X2_31 dX2_select_30 zs_27 rfl rfl ?_
  refine zw_icmp_ge (tg := 143) dX2_select_33 (by decide) rfl (fun c => ?_) (fun c => ?_)
  · have K := K.1 c
    exact zw_return dX2_select_143 rfl (Nat.le_refl 0) (Nat.le_refl 0) ⟨rfl, rfl, K⟩
  · have K := K.2 c
    refine zw_aload_n 1 dX2_select_36 rfl rfl rfl ?_
    refine zw_getR f_X2_34 dX2_select_37 zs_27 rfl rfl ?_
    refine zw_iload_n 3 dX2_select_40 rfl rfl rfl ?_
    obtain ⟨j1, hj1, hn1, K⟩ := K
    refine zw_iald j1 dX2_select_41 zs_31 ⟨hj1, hn1⟩ (by decide) rfl ?_
    refine zw_istore dX2_select_42 (by decide) rfl rfl ?_
    refine zw_aload_n 3 dX2_select_44 rfl rfl rfl ?_
    refine zw_aload_n 2 dX2_select_45 rfl rfl rfl ?_
    refine zw_getR f_X2_35 dX2_select_46 zs_27 rfl rfl ?_
    refine zw_iload_n 4 dX2_select_49 rfl rfl rfl ?_
    obtain ⟨j2, hj2, hn2, K⟩ := K
    refine zw_iald j2 dX2_select_50 zs_28 ⟨hj2, hn2⟩ (by decide) rfl ?_
    refine zw_aload_n 2 dX2_select_51 rfl rfl rfl ?_
    refine zw_getR f_X2_36 dX2_select_52 zs_27 rfl rfl ?_
    refine zw_iload_n 4 dX2_select_55 rfl rfl rfl ?_
    obtain ⟨j3, hj3, hn3, K⟩ := K
    refine zw_iald j3 dX2_select_56 zs_30 ⟨hj3, hn3⟩ (by decide) rfl ?_
    refine zw_iload 0 dX2_select_57 rfl rfl ?_
    refine zw_aload_n 2 dX2_select_59 rfl rfl rfl ?_
    refine zw_getR f_X2_39 dX2_select_60 zs_27 rfl rfl ?_
    refine zw_iload_n 4 dX2_select_63 rfl rfl rfl ?_
    obtain ⟨j4, hj4, hn4, K⟩ := K
    refine zw_zald j4 dX2_select_64 zs_32 ⟨hj4, hn4⟩ (by decide) rfl ?_
    obtain ⟨q5, ct, K⟩ := K
    refine zw_callV (n := 4) (As := [.int (h.1 28 j2), .int (h.1 30 j3), .int (h.1 31 j1), .int (h.1 32 j4)]) (rest := []) ct my_X5_reason rfl rfl k_X2_43 i_X5_reason s_X5_reason zs_1 rfl dX2_select_65 (by decide) (Nat.le_of_ble_eq_true rfl) (Nat.le_refl 0) (Nat.le_refl 0) rfl (fun r s1 h5 hq => ?_)
    obtain ⟨x5, rfl, rfl, hq⟩ := hq
    have K := K x5 h5 hq
    refine zw.st (st' := [.int x5]) rfl ?_
    refine zw_istore dX2_select_68 (by decide) rfl rfl ?_
    refine zw_iload 0 dX2_select_70 rfl rfl ?_
    refine zw_if_ne (tg := 137) dX2_select_72 (by decide) rfl (fun c => ?_) (fun c => ?_)
    · have K := K.1 c
      refine zw_iinc (v := (v3 + (1 : Int32))) 5 dX2_select_137 rfl rfl (by decide) rfl rfl ?_
      refine zw_goto (np := 28) dX2_select_140 (by decide) ?_
      exact zw.sub [3, 4, 5, 0] rfl K
    · have K := K.2 c
      refine zw_aload_n 2 dX2_select_75 rfl rfl rfl ?_
      refine zw_getR f_X2_9 dX2_select_76 zs_37 rfl rfl ?_
      refine zw_aload_n 2 dX2_select_79 rfl rfl rfl ?_
      refine zw_getI f_X2_27 dX2_select_80 zs_37 rfl rfl ?_
      refine zw_aload_n 3 dX2_select_83 rfl rfl rfl ?_
      refine zw_getR f_X2_35 dX2_select_84 zs_27 rfl rfl ?_
      refine zw_iload_n 5 dX2_select_87 rfl rfl rfl ?_
      obtain ⟨j6, hj6, hn6, K⟩ := K
      refine zw_iald j6 dX2_select_88 zs_28 ⟨hj6, hn6⟩ (by decide) rfl ?_
      obtain ⟨j7, hj7, hn7, K⟩ := K
      refine zw_iast j7 dX2_select_89 zs_38 ⟨hj7, hn7⟩ (by decide) rfl ?_
      generalize e8 : zw_sI h5 38 j7 (h5.1 28 j6) = h8
      have K := K h8 e8.symm
      refine zw_aload_n 2 dX2_select_90 rfl rfl rfl ?_
      refine zw_getR f_X2_15 dX2_select_91 zs_37 rfl rfl ?_
      refine zw_aload_n 2 dX2_select_94 rfl rfl rfl ?_
      refine zw_getI f_X2_27 dX2_select_95 zs_37 rfl rfl ?_
      refine zw_aload_n 3 dX2_select_98 rfl rfl rfl ?_
      refine zw_getR f_X2_49 dX2_select_99 zs_27 rfl rfl ?_
      refine zw_iload_n 5 dX2_select_102 rfl rfl rfl ?_
      obtain ⟨j9, hj9, hn9, K⟩ := K
      refine zw_iald j9 dX2_select_103 zs_29 ⟨hj9, hn9⟩ (by decide) rfl ?_
      obtain ⟨j10, hj10, hn10, K⟩ := K
      refine zw_iast j10 dX2_select_104 zs_39 ⟨hj10, hn10⟩ (by decide) rfl ?_
      generalize e11 : zw_sI h8 39 j10 (h8.1 29 j9) = h11
      have K := K h11 e11.symm
      refine zw_aload_n 2 dX2_select_105 rfl rfl rfl ?_
      refine zw_getR f_X2_18 dX2_select_106 zs_37 rfl rfl ?_
      refine zw_aload_n 2 dX2_select_109 rfl rfl rfl ?_
      refine zw_getI f_X2_27 dX2_select_110 zs_37 rfl rfl ?_
      refine zw_iload 1 dX2_select_113 rfl rfl ?_
      obtain ⟨j12, hj12, hn12, K⟩ := K
      refine zw_iast j12 dX2_select_115 zs_40 ⟨hj12, hn12⟩ (by decide) rfl ?_
      generalize e13 : zw_sI h11 40 j12 (h.1 31 j1) = h13
      have K := K h13 e13.symm
      refine zw_aload_n 2 dX2_select_116 rfl rfl rfl ?_
      refine zw_getR f_X2_21 dX2_select_117 zs_37 rfl rfl ?_
      refine zw_iload 1 dX2_select_120 rfl rfl ?_
      refine zw_dup2 dX2_select_122 rfl rfl rfl ?_
      obtain ⟨j14, hj14, hn14, K⟩ := K
      refine zw_iald j14 dX2_select_123 zs_41 ⟨hj14, hn14⟩ (by decide) rfl ?_
      refine zw_iconst (v := (1 : Int32)) dX2_select_124 (by decide) rfl ?_
      refine zw_iadd dX2_select_125 rfl ?_
      obtain ⟨j15, hj15, hn15, K⟩ := K
      refine zw_iast j15 dX2_select_126 zs_41 ⟨hj15, hn15⟩ (by decide) rfl ?_
      generalize e16 : zw_sI h13 41 j15 ((h13.1 41 j14) + (1 : Int32)) = h16
      have K := K h16 e16.symm
      refine zw_aload_n 2 dX2_select_127 rfl rfl rfl ?_
      refine zw_dup dX2_select_128 rfl rfl ?_
      refine zw_getI f_X2_27 dX2_select_129 zs_37 rfl rfl ?_
      refine zw_iconst (v := (1 : Int32)) dX2_select_132 (by decide) rfl ?_
      refine zw_iadd dX2_select_133 rfl ?_
      refine zw_putI f_X2_27 cl_X2 rfl ⟨rfl, rfl⟩ dX2_select_134 zs_37 rfl rfl ?_
      generalize e17 : zw_sI h16 37 5 ((h16.1 37 5) + (1 : Int32)) = h17
      have K := K h17 e17.symm
      refine zw_iinc (v := (v3 + (1 : Int32))) 5 dX2_select_137 rfl rfl (by decide) rfl rfl ?_
      refine zw_goto (np := 28) dX2_select_140 (by decide) ?_
      exact zw.sub [3, 4, 5, 0] rfl K

set_option maxRecDepth 100000 in
set_option maxHeartbeats 4000000 in
theorem rX2_has_0 {q : Int32 → zw_H → Prop} {h : zw_H} {v1 : Int32} (K : ((v1 < 0 → q (0 : Int32) h) ∧ (¬ v1 < 0 → (((h.1 37 5) ≤ v1 → q (0 : Int32) h) ∧ (¬ (h.1 37 5) ≤ v1 → q (1 : Int32) h))))) : zwI 0 mX2_has q 0 [(0, .ref 37), (1, .int v1)] [] h := by
  refine zw_iload_n 1 dX2_has_0 rfl rfl rfl ?_
  refine zw_if_lt (tg := 16) dX2_has_1 (by decide) rfl (fun c => ?_) (fun c => ?_)
  · have K := K.1 c
    refine zw_iconst (v := (0 : Int32)) dX2_has_16 (by decide) rfl ?_
    exact zw_ireturn (ty := .boolean) dX2_has_17 rfl rfl (Nat.le_refl 0) (Nat.le_refl 0) ⟨_, rfl, rfl, K⟩
  · have K := K.2 c
    refine zw_iload_n 1 dX2_has_4 rfl rfl rfl ?_
    refine zw_aload_n 0 dX2_has_5 rfl rfl rfl ?_
    refine zw_getI f_X2_27 dX2_has_6 zs_37 rfl rfl ?_
    refine zw_icmp_ge (tg := 16) dX2_has_9 (by decide) rfl (fun c => ?_) (fun c => ?_)
    · have K := K.1 c
      refine zw_iconst (v := (0 : Int32)) dX2_has_16 (by decide) rfl ?_
      exact zw_ireturn (ty := .boolean) dX2_has_17 rfl rfl (Nat.le_refl 0) (Nat.le_refl 0) ⟨_, rfl, rfl, K⟩
    · have K := K.2 c
      refine zw_iconst (v := (1 : Int32)) dX2_has_12 (by decide) rfl ?_
      refine zw_goto (np := 17) dX2_has_13 (by decide) ?_
      exact zw_ireturn (ty := .boolean) dX2_has_17 rfl rfl (Nat.le_refl 0) (Nat.le_refl 0) ⟨_, rfl, rfl, K⟩

set_option maxRecDepth 100000 in
set_option maxHeartbeats 4000000 in
theorem rX2_find_0 {q : Int32 → zw_H → Prop} {h : zw_H} {v1 : Int32} (K : zwI 0 mX2_find q 2 [(0, .ref 37), (1, .int v1), (2, .int (0 : Int32))] [] h) : zwI 0 mX2_find q 0 [(0, .ref 37), (1, .int v1)] [] h := by
  refine zw_iconst (v := (0 : Int32)) dX2_find_0 (by decide) rfl ?_
  refine zw_istore_n dX2_find_1 rfl (by decide) rfl rfl ?_
  exact zw.sub [1, 2, 0] rfl K

set_option maxRecDepth 100000 in
set_option maxHeartbeats 4000000 in
theorem rX2_find_2 {q : Int32 → zw_H → Prop} {h : zw_H} {v1 v2 : Int32} (K : (((h.1 37 5) ≤ v2 → q (-9 : Int32) h) ∧ (¬ (h.1 37 5) ≤ v2 → (∃ j1 : Nat, v2 = nI j1 ∧ j1 < 203 ∧ ((¬ (h.1 38 j1) = v1 → zwI 0 mX2_find q 2 [(0, .ref 37), (1, .int v1), (2, .int (v2 + (1 : Int32)))] [] h) ∧ ((h.1 38 j1) = v1 → q v2 h)))))) : zwI 0 mX2_find q 2 [(0, .ref 37), (1, .int v1), (2, .int v2)] [] h := by
  refine zw_iload_n 2 dX2_find_2 rfl rfl rfl ?_
  refine zw_aload_n 0 dX2_find_3 rfl rfl rfl ?_
  refine zw_getI f_X2_27 dX2_find_4 zs_37 rfl rfl ?_
  refine zw_icmp_ge (tg := 28) dX2_find_7 (by decide) rfl (fun c => ?_) (fun c => ?_)
  · have K := K.1 c
    refine zw_bipush (v := (-9 : Int32)) dX2_find_28 (by decide) rfl ?_
    exact zw_ireturn (ty := .int) dX2_find_30 rfl rfl (Nat.le_refl 0) (Nat.le_refl 0) ⟨_, rfl, rfl, K⟩
  · have K := K.2 c
    refine zw_aload_n 0 dX2_find_10 rfl rfl rfl ?_
    refine zw_getR f_X2_9 dX2_find_11 zs_37 rfl rfl ?_
    refine zw_iload_n 2 dX2_find_14 rfl rfl rfl ?_
    obtain ⟨j1, hj1, hn1, K⟩ := K
    refine zw_iald j1 dX2_find_15 zs_38 ⟨hj1, hn1⟩ (by decide) rfl ?_
    refine zw_iload_n 1 dX2_find_16 rfl rfl rfl ?_
    refine zw_icmp_ne (tg := 22) dX2_find_17 (by decide) rfl (fun c => ?_) (fun c => ?_)
    · have K := K.1 c
      refine zw_iinc (v := (v2 + (1 : Int32))) 2 dX2_find_22 rfl rfl (by decide) rfl rfl ?_
      refine zw_goto (np := 2) dX2_find_25 (by decide) ?_
      exact zw.sub [1, 2, 0] rfl K
    · have K := K.2 c
      refine zw_iload_n 2 dX2_find_20 rfl rfl rfl ?_
      exact zw_ireturn (ty := .int) dX2_find_21 rfl rfl (Nat.le_refl 0) (Nat.le_refl 0) ⟨_, rfl, rfl, K⟩

set_option maxRecDepth 100000 in
set_option maxHeartbeats 4000000 in
theorem rX2_firstBehind_0 {q : Int32 → zw_H → Prop} {h : zw_H} {v1 : Int32} (K : zwI 0 mX2_firstBehind q 2 [(0, .ref 37), (1, .int v1), (2, .int (0 : Int32))] [] h) : zwI 0 mX2_firstBehind q 0 [(0, .ref 37), (1, .int v1)] [] h := by
  refine zw_iconst (v := (0 : Int32)) dX2_firstBehind_0 (by decide) rfl ?_
  refine zw_istore_n dX2_firstBehind_1 rfl (by decide) rfl rfl ?_
  exact zw.sub [1, 2, 0] rfl K

set_option maxRecDepth 100000 in
set_option maxHeartbeats 4000000 in
theorem rX2_firstBehind_2 {q : Int32 → zw_H → Prop} {h : zw_H} {v1 v2 : Int32} (K : (((h.1 37 5) ≤ v2 → q (-9 : Int32) h) ∧ (¬ (h.1 37 5) ≤ v2 → (∃ j1 : Nat, v2 = nI j1 ∧ j1 < 203 ∧ (((h.1 39 j1) ≤ v1 → zwI 0 mX2_firstBehind q 2 [(0, .ref 37), (1, .int v1), (2, .int (v2 + (1 : Int32)))] [] h) ∧ (¬ (h.1 39 j1) ≤ v1 → q v2 h)))))) : zwI 0 mX2_firstBehind q 2 [(0, .ref 37), (1, .int v1), (2, .int v2)] [] h := by
  refine zw_iload_n 2 dX2_firstBehind_2 rfl rfl rfl ?_
  refine zw_aload_n 0 dX2_firstBehind_3 rfl rfl rfl ?_
  refine zw_getI f_X2_27 dX2_firstBehind_4 zs_37 rfl rfl ?_
  refine zw_icmp_ge (tg := 28) dX2_firstBehind_7 (by decide) rfl (fun c => ?_) (fun c => ?_)
  · have K := K.1 c
    refine zw_bipush (v := (-9 : Int32)) dX2_firstBehind_28 (by decide) rfl ?_
    exact zw_ireturn (ty := .int) dX2_firstBehind_30 rfl rfl (Nat.le_refl 0) (Nat.le_refl 0) ⟨_, rfl, rfl, K⟩
  · have K := K.2 c
    refine zw_aload_n 0 dX2_firstBehind_10 rfl rfl rfl ?_
    refine zw_getR f_X2_15 dX2_firstBehind_11 zs_37 rfl rfl ?_
    refine zw_iload_n 2 dX2_firstBehind_14 rfl rfl rfl ?_
    obtain ⟨j1, hj1, hn1, K⟩ := K
    refine zw_iald j1 dX2_firstBehind_15 zs_39 ⟨hj1, hn1⟩ (by decide) rfl ?_
    refine zw_iload_n 1 dX2_firstBehind_16 rfl rfl rfl ?_
    refine zw_icmp_le (tg := 22) dX2_firstBehind_17 (by decide) rfl (fun c => ?_) (fun c => ?_)
    · have K := K.1 c
      refine zw_iinc (v := (v2 + (1 : Int32))) 2 dX2_firstBehind_22 rfl rfl (by decide) rfl rfl ?_
      refine zw_goto (np := 2) dX2_firstBehind_25 (by decide) ?_
      exact zw.sub [1, 2, 0] rfl K
    · have K := K.2 c
      refine zw_iload_n 2 dX2_firstBehind_20 rfl rfl rfl ?_
      exact zw_ireturn (ty := .int) dX2_firstBehind_21 rfl rfl (Nat.le_refl 0) (Nat.le_refl 0) ⟨_, rfl, rfl, K⟩

set_option maxRecDepth 100000 in
set_option maxHeartbeats 4000000 in
theorem rX2_lastBefore_0 {q : Int32 → zw_H → Prop} {h : zw_H} {v1 : Int32} (K : zwI 0 mX2_lastBefore q 7 [(0, .ref 37), (1, .int v1), (2, .int ((h.1 37 5) - (1 : Int32)))] [] h) : zwI 0 mX2_lastBefore q 0 [(0, .ref 37), (1, .int v1)] [] h := by
  refine zw_aload_n 0 dX2_lastBefore_0 rfl rfl rfl ?_
  refine zw_getI f_X2_27 dX2_lastBefore_1 zs_37 rfl rfl ?_
  refine zw_iconst (v := (1 : Int32)) dX2_lastBefore_4 (by decide) rfl ?_
  refine zw_isub dX2_lastBefore_5 rfl ?_
  refine zw_istore_n dX2_lastBefore_6 rfl (by decide) rfl rfl ?_
  exact zw.sub [1, 2, 0] rfl K

set_option maxRecDepth 100000 in
set_option maxHeartbeats 4000000 in
theorem rX2_lastBefore_7 {q : Int32 → zw_H → Prop} {h : zw_H} {v1 v2 : Int32} (K : ((v2 < 0 → q (-9 : Int32) h) ∧ (¬ v2 < 0 → (∃ j1 : Nat, v2 = nI j1 ∧ j1 < 203 ∧ ((v1 ≤ (h.1 39 j1) → zwI 0 mX2_lastBefore q 7 [(0, .ref 37), (1, .int v1), (2, .int (v2 + (-1 : Int32)))] [] h) ∧ (¬ v1 ≤ (h.1 39 j1) → q v2 h)))))) : zwI 0 mX2_lastBefore q 7 [(0, .ref 37), (1, .int v1), (2, .int v2)] [] h := by
  refine zw_iload_n 2 dX2_lastBefore_7 rfl rfl rfl ?_
  refine zw_if_lt (tg := 29) dX2_lastBefore_8 (by decide) rfl (fun c => ?_) (fun c => ?_)
  · have K := K.1 c
    refine zw_bipush (v := (-9 : Int32)) dX2_lastBefore_29 (by decide) rfl ?_
    exact zw_ireturn (ty := .int) dX2_lastBefore_31 rfl rfl (Nat.le_refl 0) (Nat.le_refl 0) ⟨_, rfl, rfl, K⟩
  · have K := K.2 c
    refine zw_aload_n 0 dX2_lastBefore_11 rfl rfl rfl ?_
    refine zw_getR f_X2_15 dX2_lastBefore_12 zs_37 rfl rfl ?_
    refine zw_iload_n 2 dX2_lastBefore_15 rfl rfl rfl ?_
    obtain ⟨j1, hj1, hn1, K⟩ := K
    refine zw_iald j1 dX2_lastBefore_16 zs_39 ⟨hj1, hn1⟩ (by decide) rfl ?_
    refine zw_iload_n 1 dX2_lastBefore_17 rfl rfl rfl ?_
    refine zw_icmp_ge (tg := 23) dX2_lastBefore_18 (by decide) rfl (fun c => ?_) (fun c => ?_)
    · have K := K.1 c
      refine zw_iinc (v := (v2 + (-1 : Int32))) 2 dX2_lastBefore_23 rfl rfl (by decide) rfl rfl ?_
      refine zw_goto (np := 7) dX2_lastBefore_26 (by decide) ?_
      exact zw.sub [1, 2, 0] rfl K
    · have K := K.2 c
      refine zw_iload_n 2 dX2_lastBefore_21 rfl rfl rfl ?_
      exact zw_ireturn (ty := .int) dX2_lastBefore_22 rfl rfl (Nat.le_refl 0) (Nat.le_refl 0) ⟨_, rfl, rfl, K⟩

set_option maxRecDepth 100000 in
set_option maxHeartbeats 4000000 in
theorem rX2_findNearest_0 {q : zw_H → Prop} {h : zw_H} {v1 v2 v3 : Int32} (K : (∀ h1 : zw_H, h1 = zw_sI h 37 6 (0 : Int32) → zwV 2 mX2_findNearest q 8 [(0, .ref 37), (1, .int v1), (2, .int v2), (3, .int v3), (4, .int (0 : Int32))] [] h1)) : zwV 2 mX2_findNearest q 0 [(0, .ref 37), (1, .int v1), (2, .int v2), (3, .int v3)] [] h := by
  refine zw_aload_n 0 dX2_findNearest_0 rfl rfl rfl ?_
  refine zw_iconst (v := (0 : Int32)) dX2_findNearest_1 (by decide) rfl ?_
  refine zw_putI f_X2_50 cl_X2 rfl ⟨rfl, rfl⟩ dX2_findNearest_2 zs_37 rfl rfl ?_
  generalize e1 : zw_sI h 37 6 (0 : Int32) = h1
  have K := K h1 e1.symm
  refine zw_iconst (v := (0 : Int32)) dX2_findNearest_5 (by decide) rfl ?_
  refine zw_istore dX2_findNearest_6 (by decide) rfl rfl ?_
  exact zw.sub [1, 2, 3, 4, 0] rfl K

set_option maxRecDepth 100000 in
set_option maxHeartbeats 4000000 in
theorem rX2_findNearest_8 {q : zw_H → Prop} {h : zw_H} {v1 v2 v3 v4 : Int32} (K : (((h.1 37 5) ≤ v4 → q h) ∧ (¬ (h.1 37 5) ≤ v4 → ((v2 = 0 → (∃ j1 : Nat, (((h.1 37 5) - (1 : Int32)) - v4) = nI j1 ∧ j1 < 203 ∧ ((v2 = 0 → (∃ q2 : Int32 → zw_H → Prop, zcI 0 mX7_isBelow [.int v1, .int (h.1 38 j1)] h q2 ∧ (∀ (x2 : Int32) (h2 : zw_H), q2 x2 h2 → ((x2 = 0 → zwV 2 mX2_findNearest q 8 [(0, .ref 37), (1, .int v1), (2, .int v2), (3, .int v3), (4, .int (v4 + (1 : Int32)))] [] h2) ∧ (¬ x2 = 0 → (((h.1 38 j1) = v3 → zwV 2 mX2_findNearest q 8 [(0, .ref 37), (1, .int v1), (2, .int v2), (3, .int v3), (4, .int (v4 + (1 : Int32)))] [] h2) ∧ (¬ (h.1 38 j1) = v3 → (∃ q3 : Int32 → zw_H → Prop, zcI 1 mX2_isBehindNearest [.ref 37, .int (h.1 38 j1), .int v2] h2 q3 ∧ (∀ (x3 : Int32) (h3 : zw_H), q3 x3 h3 → ((¬ x3 = 0 → zwV 2 mX2_findNearest q 8 [(0, .ref 37), (1, .int v1), (2, .int v2), (3, .int v3), (4, .int (v4 + (1 : Int32)))] [] h3) ∧ (x3 = 0 → (∃ j4 : Nat, (h3.1 37 6) = nI j4 ∧ j4 < 203 ∧ ∀ h5 : zw_H, h5 = zw_sI h3 42 j4 (h.1 38 j1) → (∀ h6 : zw_H, h6 = zw_sI h5 37 6 ((h5.1 37 6) + (1 : Int32)) → zwV 2 mX2_findNearest q 8 [(0, .ref 37), (1, .int v1), (2, .int v2), (3, .int v3), (4, .int (v4 + (1 : Int32)))] [] h6))))))))))))) ∧ (¬ v2 = 0 → (∃ q7 : Int32 → zw_H → Prop, zcI 0 mX7_isBelow [.int (h.1 38 j1), .int v1] h q7 ∧ (∀ (x7 : Int32) (h7 : zw_H), q7 x7 h7 → ((x7 = 0 → zwV 2 mX2_findNearest q 8 [(0, .ref 37), (1, .int v1), (2, .int v2), (3, .int v3), (4, .int (v4 + (1 : Int32)))] [] h7) ∧ (¬ x7 = 0 → (((h.1 38 j1) = v3 → zwV 2 mX2_findNearest q 8 [(0, .ref 37), (1, .int v1), (2, .int v2), (3, .int v3), (4, .int (v4 + (1 : Int32)))] [] h7) ∧ (¬ (h.1 38 j1) = v3 → (∃ q8 : Int32 → zw_H → Prop, zcI 1 mX2_isBehindNearest [.ref 37, .int (h.1 38 j1), .int v2] h7 q8 ∧ (∀ (x8 : Int32) (h8 : zw_H), q8 x8 h8 → ((¬ x8 = 0 → zwV 2 mX2_findNearest q 8 [(0, .ref 37), (1, .int v1), (2, .int v2), (3, .int v3), (4, .int (v4 + (1 : Int32)))] [] h8) ∧ (x8 = 0 → (∃ j9 : Nat, (h8.1 37 6) = nI j9 ∧ j9 < 203 ∧ ∀ h10 : zw_H, h10 = zw_sI h8 42 j9 (h.1 38 j1) → (∀ h11 : zw_H, h11 = zw_sI h10 37 6 ((h10.1 37 6) + (1 : Int32)) → zwV 2 mX2_findNearest q 8 [(0, .ref 37), (1, .int v1), (2, .int v2), (3, .int v3), (4, .int (v4 + (1 : Int32)))] [] h11)))))))))))))))) ∧ (¬ v2 = 0 → (∃ j12 : Nat, v4 = nI j12 ∧ j12 < 203 ∧ ((v2 = 0 → (∃ q13 : Int32 → zw_H → Prop, zcI 0 mX7_isBelow [.int v1, .int (h.1 38 j12)] h q13 ∧ (∀ (x13 : Int32) (h13 : zw_H), q13 x13 h13 → ((x13 = 0 → zwV 2 mX2_findNearest q 8 [(0, .ref 37), (1, .int v1), (2, .int v2), (3, .int v3), (4, .int (v4 + (1 : Int32)))] [] h13) ∧ (¬ x13 = 0 → (((h.1 38 j12) = v3 → zwV 2 mX2_findNearest q 8 [(0, .ref 37), (1, .int v1), (2, .int v2), (3, .int v3), (4, .int (v4 + (1 : Int32)))] [] h13) ∧ (¬ (h.1 38 j12) = v3 → (∃ q14 : Int32 → zw_H → Prop, zcI 1 mX2_isBehindNearest [.ref 37, .int (h.1 38 j12), .int v2] h13 q14 ∧ (∀ (x14 : Int32) (h14 : zw_H), q14 x14 h14 → ((¬ x14 = 0 → zwV 2 mX2_findNearest q 8 [(0, .ref 37), (1, .int v1), (2, .int v2), (3, .int v3), (4, .int (v4 + (1 : Int32)))] [] h14) ∧ (x14 = 0 → (∃ j15 : Nat, (h14.1 37 6) = nI j15 ∧ j15 < 203 ∧ ∀ h16 : zw_H, h16 = zw_sI h14 42 j15 (h.1 38 j12) → (∀ h17 : zw_H, h17 = zw_sI h16 37 6 ((h16.1 37 6) + (1 : Int32)) → zwV 2 mX2_findNearest q 8 [(0, .ref 37), (1, .int v1), (2, .int v2), (3, .int v3), (4, .int (v4 + (1 : Int32)))] [] h17))))))))))))) ∧ (¬ v2 = 0 → (∃ q18 : Int32 → zw_H → Prop, zcI 0 mX7_isBelow [.int (h.1 38 j12), .int v1] h q18 ∧ (∀ (x18 : Int32) (h18 : zw_H), q18 x18 h18 → ((x18 = 0 → zwV 2 mX2_findNearest q 8 [(0, .ref 37), (1, .int v1), (2, .int v2), (3, .int v3), (4, .int (v4 + (1 : Int32)))] [] h18) ∧ (¬ x18 = 0 → (((h.1 38 j12) = v3 → zwV 2 mX2_findNearest q 8 [(0, .ref 37), (1, .int v1), (2, .int v2), (3, .int v3), (4, .int (v4 + (1 : Int32)))] [] h18) ∧ (¬ (h.1 38 j12) = v3 → (∃ q19 : Int32 → zw_H → Prop, zcI 1 mX2_isBehindNearest [.ref 37, .int (h.1 38 j12), .int v2] h18 q19 ∧ (∀ (x19 : Int32) (h19 : zw_H), q19 x19 h19 → ((¬ x19 = 0 → zwV 2 mX2_findNearest q 8 [(0, .ref 37), (1, .int v1), (2, .int v2), (3, .int v3), (4, .int (v4 + (1 : Int32)))] [] h19) ∧ (x19 = 0 → (∃ j20 : Nat, (h19.1 37 6) = nI j20 ∧ j20 < 203 ∧ ∀ h21 : zw_H, h21 = zw_sI h19 42 j20 (h.1 38 j12) → (∀ h22 : zw_H, h22 = zw_sI h21 37 6 ((h21.1 37 6) + (1 : Int32)) → zwV 2 mX2_findNearest q 8 [(0, .ref 37), (1, .int v1), (2, .int v2), (3, .int v3), (4, .int (v4 + (1 : Int32)))] [] h22)))))))))))))))))))) : zwV 2 mX2_findNearest q 8 [(0, .ref 37), (1, .int v1), (2, .int v2), (3, .int v3), (4, .int v4)] [] h := by
  refine zw_iload 4 dX2_findNearest_8 rfl rfl ?_
  refine zw_aload_n 0 dX2_findNearest_10 rfl rfl rfl ?_
  refine zw_getI f_X2_27 dX2_findNearest_11 zs_37 rfl rfl ?_
  refine zw_icmp_ge (tg := 111) dX2_findNearest_14 (by decide) rfl (fun c => ?_) (fun c => ?_)
  · have K := K.1 c
    exact zw_return dX2_findNearest_111 rfl (Nat.le_refl 0) (Nat.le_refl 0) ⟨rfl, rfl, K⟩
  · have K := K.2 c
    refine zw_aload_n 0 dX2_findNearest_17 rfl rfl rfl ?_
    refine zw_getR f_X2_9 dX2_findNearest_18 zs_37 rfl rfl ?_
    refine zw_iload_n 2 dX2_findNearest_21 rfl rfl rfl ?_
    refine zw_if_eq (tg := 30) dX2_findNearest_22 (by decide) rfl (fun c => ?_) (fun c => ?_)
    · have K := K.1 c
      refine zw_aload_n 0 dX2_findNearest_30 rfl rfl rfl ?_
      refine zw_getI f_X2_27 dX2_findNearest_31 zs_37 rfl rfl ?_
      refine zw_iconst (v := (1 : Int32)) dX2_findNearest_34 (by decide) rfl ?_
      refine zw_isub dX2_findNearest_35 rfl ?_
      refine zw_iload 4 dX2_findNearest_36 rfl rfl ?_
      refine zw_isub dX2_findNearest_38 rfl ?_
      obtain ⟨j1, hj1, hn1, K⟩ := K
      refine zw_iald j1 dX2_findNearest_39 zs_38 ⟨hj1, hn1⟩ (by decide) rfl ?_
      refine zw_istore dX2_findNearest_40 (by decide) rfl rfl ?_
      refine zw_iload_n 3 dX2_findNearest_42 rfl rfl rfl ?_
      refine zw_if_eq (tg := 55) dX2_findNearest_43 (by decide) rfl (fun c => ?_) (fun c => ?_)
      · have K := K.1 c
        refine zw_iload_n 2 dX2_findNearest_55 rfl rfl rfl ?_
        refine zw_iload 0 dX2_findNearest_56 rfl rfl ?_
        obtain ⟨q2, ct, K⟩ := K
        refine zw_callSN (n := 2) (As := [.int v1, .int (h.1 38 j1)]) (rest := []) ct my_X7_isBelow rfl rfl k_X2_53 t_X7_isBelow dX2_findNearest_58 (by decide) (Nat.le_of_ble_eq_true rfl) (Nat.le_refl 0) (Nat.le_refl 0) rfl (fun r s1 h2 hq => ?_)
        obtain ⟨x2, rfl, rfl, hq⟩ := hq
        have K := K x2 h2 hq
        refine zw.st (st' := [.int x2]) rfl ?_
        refine zw_istore dX2_findNearest_61 (by decide) rfl rfl ?_
        refine zw_iload 0 dX2_findNearest_63 rfl rfl ?_
        refine zw_if_eq (tg := 105) dX2_findNearest_65 (by decide) rfl (fun c => ?_) (fun c => ?_)
        · have K := K.1 c
          refine zw_iinc (v := (v4 + (1 : Int32))) 6 dX2_findNearest_105 rfl rfl (by decide) rfl rfl ?_
          refine zw_goto (np := 8) dX2_findNearest_108 (by decide) ?_
          exact zw.sub [3, 4, 5, 6, 0] rfl K
        · have K := K.2 c
          refine zw_iload 1 dX2_findNearest_68 rfl rfl ?_
          refine zw_iload_n 5 dX2_findNearest_70 rfl rfl rfl ?_
          refine zw_icmp_eq (tg := 105) dX2_findNearest_71 (by decide) rfl (fun c => ?_) (fun c => ?_)
          · have K := K.1 c
            refine zw_iinc (v := (v4 + (1 : Int32))) 6 dX2_findNearest_105 rfl rfl (by decide) rfl rfl ?_
            refine zw_goto (np := 8) dX2_findNearest_108 (by decide) ?_
            exact zw.sub [3, 4, 5, 6, 0] rfl K
          · have K := K.2 c
            refine zw_aload_n 2 dX2_findNearest_74 rfl rfl rfl ?_
            refine zw_iload 1 dX2_findNearest_75 rfl rfl ?_
            refine zw_iload_n 4 dX2_findNearest_77 rfl rfl rfl ?_
            obtain ⟨q3, ct, K⟩ := K
            refine zw_callV (n := 2) (As := [.int (h.1 38 j1), .int v2]) (rest := []) ct my_X2_isBehindNearest rfl rfl k_X2_57 i_X2_isBehindNearest s_X2_isBehindNearest zs_37 rfl dX2_findNearest_78 (by decide) (Nat.le_of_ble_eq_true rfl) (Nat.le_refl 0) (Nat.le_refl 0) rfl (fun r s1 h3 hq => ?_)
            obtain ⟨x3, rfl, rfl, hq⟩ := hq
            have K := K x3 h3 hq
            refine zw.st (st' := [.int x3]) rfl ?_
            refine zw_if_ne (tg := 105) dX2_findNearest_81 (by decide) rfl (fun c => ?_) (fun c => ?_)
            · have K := K.1 c
              refine zw_iinc (v := (v4 + (1 : Int32))) 6 dX2_findNearest_105 rfl rfl (by decide) rfl rfl ?_
              refine zw_goto (np := 8) dX2_findNearest_108 (by decide) ?_
              exact zw.sub [3, 4, 5, 6, 0] rfl K
            · have K := K.2 c
              refine zw_aload_n 2 dX2_findNearest_84 rfl rfl rfl ?_
              refine zw_getR f_X2_24 dX2_findNearest_85 zs_37 rfl rfl ?_
              refine zw_aload_n 2 dX2_findNearest_88 rfl rfl rfl ?_
              refine zw_getI f_X2_50 dX2_findNearest_89 zs_37 rfl rfl ?_
              refine zw_iload 1 dX2_findNearest_92 rfl rfl ?_
              obtain ⟨j4, hj4, hn4, K⟩ := K
              refine zw_iast j4 dX2_findNearest_94 zs_42 ⟨hj4, hn4⟩ (by decide) rfl ?_
              generalize e5 : zw_sI h3 42 j4 (h.1 38 j1) = h5
              have K := K h5 e5.symm
              refine zw_aload_n 2 dX2_findNearest_95 rfl rfl rfl ?_
              refine zw_dup dX2_findNearest_96 rfl rfl ?_
              refine zw_getI f_X2_50 dX2_findNearest_97 zs_37 rfl rfl ?_
              refine zw_iconst (v := (1 : Int32)) dX2_findNearest_100 (by decide) rfl ?_
              refine zw_iadd dX2_findNearest_101 rfl ?_
              refine zw_putI f_X2_50 cl_X2 rfl ⟨rfl, rfl⟩ dX2_findNearest_102 zs_37 rfl rfl ?_
              generalize e6 : zw_sI h5 37 6 ((h5.1 37 6) + (1 : Int32)) = h6
              have K := K h6 e6.symm
              refine zw_iinc (v := (v4 + (1 : Int32))) 6 dX2_findNearest_105 rfl rfl (by decide) rfl rfl ?_
              refine zw_goto (np := 8) dX2_findNearest_108 (by decide) ?_
              exact zw.sub [3, 4, 5, 6, 0] rfl K
      · have K := K.2 c
        refine zw_iload 0 dX2_findNearest_46 rfl rfl ?_
        refine zw_iload_n 2 dX2_findNearest_48 rfl rfl rfl ?_
        obtain ⟨q7, ct, K⟩ := K
        refine zw_callSN (n := 2) (As := [.int (h.1 38 j1), .int v1]) (rest := []) ct my_X7_isBelow rfl rfl k_X2_53 t_X7_isBelow dX2_findNearest_49 (by decide) (Nat.le_of_ble_eq_true rfl) (Nat.le_refl 0) (Nat.le_refl 0) rfl (fun r s1 h7 hq => ?_)
        obtain ⟨x7, rfl, rfl, hq⟩ := hq
        have K := K x7 h7 hq
        refine zw.st (st' := [.int x7]) rfl ?_
        refine zw_goto (np := 61) dX2_findNearest_52 (by decide) ?_
        refine zw_istore dX2_findNearest_61 (by decide) rfl rfl ?_
        refine zw_iload 0 dX2_findNearest_63 rfl rfl ?_
        refine zw_if_eq (tg := 105) dX2_findNearest_65 (by decide) rfl (fun c => ?_) (fun c => ?_)
        · have K := K.1 c
          refine zw_iinc (v := (v4 + (1 : Int32))) 6 dX2_findNearest_105 rfl rfl (by decide) rfl rfl ?_
          refine zw_goto (np := 8) dX2_findNearest_108 (by decide) ?_
          exact zw.sub [3, 4, 5, 6, 0] rfl K
        · have K := K.2 c
          refine zw_iload 1 dX2_findNearest_68 rfl rfl ?_
          refine zw_iload_n 5 dX2_findNearest_70 rfl rfl rfl ?_
          refine zw_icmp_eq (tg := 105) dX2_findNearest_71 (by decide) rfl (fun c => ?_) (fun c => ?_)
          · have K := K.1 c
            refine zw_iinc (v := (v4 + (1 : Int32))) 6 dX2_findNearest_105 rfl rfl (by decide) rfl rfl ?_
            refine zw_goto (np := 8) dX2_findNearest_108 (by decide) ?_
            exact zw.sub [3, 4, 5, 6, 0] rfl K
          · have K := K.2 c
            refine zw_aload_n 2 dX2_findNearest_74 rfl rfl rfl ?_
            refine zw_iload 1 dX2_findNearest_75 rfl rfl ?_
            refine zw_iload_n 4 dX2_findNearest_77 rfl rfl rfl ?_
            obtain ⟨q8, ct, K⟩ := K
            refine zw_callV (n := 2) (As := [.int (h.1 38 j1), .int v2]) (rest := []) ct my_X2_isBehindNearest rfl rfl k_X2_57 i_X2_isBehindNearest s_X2_isBehindNearest zs_37 rfl dX2_findNearest_78 (by decide) (Nat.le_of_ble_eq_true rfl) (Nat.le_refl 0) (Nat.le_refl 0) rfl (fun r s1 h8 hq => ?_)
            obtain ⟨x8, rfl, rfl, hq⟩ := hq
            have K := K x8 h8 hq
            refine zw.st (st' := [.int x8]) rfl ?_
            refine zw_if_ne (tg := 105) dX2_findNearest_81 (by decide) rfl (fun c => ?_) (fun c => ?_)
            · have K := K.1 c
              refine zw_iinc (v := (v4 + (1 : Int32))) 6 dX2_findNearest_105 rfl rfl (by decide) rfl rfl ?_
              refine zw_goto (np := 8) dX2_findNearest_108 (by decide) ?_
              exact zw.sub [3, 4, 5, 6, 0] rfl K
            · have K := K.2 c
              refine zw_aload_n 2 dX2_findNearest_84 rfl rfl rfl ?_
              refine zw_getR f_X2_24 dX2_findNearest_85 zs_37 rfl rfl ?_
              refine zw_aload_n 2 dX2_findNearest_88 rfl rfl rfl ?_
              refine zw_getI f_X2_50 dX2_findNearest_89 zs_37 rfl rfl ?_
              refine zw_iload 1 dX2_findNearest_92 rfl rfl ?_
              obtain ⟨j9, hj9, hn9, K⟩ := K
              refine zw_iast j9 dX2_findNearest_94 zs_42 ⟨hj9, hn9⟩ (by decide) rfl ?_
              generalize e10 : zw_sI h8 42 j9 (h.1 38 j1) = h10
              have K := K h10 e10.symm
              refine zw_aload_n 2 dX2_findNearest_95 rfl rfl rfl ?_
              refine zw_dup dX2_findNearest_96 rfl rfl ?_
              refine zw_getI f_X2_50 dX2_findNearest_97 zs_37 rfl rfl ?_
              refine zw_iconst (v := (1 : Int32)) dX2_findNearest_100 (by decide) rfl ?_
              refine zw_iadd dX2_findNearest_101 rfl ?_
              refine zw_putI f_X2_50 cl_X2 rfl ⟨rfl, rfl⟩ dX2_findNearest_102 zs_37 rfl rfl ?_
              generalize e11 : zw_sI h10 37 6 ((h10.1 37 6) + (1 : Int32)) = h11
              have K := K h11 e11.symm
              refine zw_iinc (v := (v4 + (1 : Int32))) 6 dX2_findNearest_105 rfl rfl (by decide) rfl rfl ?_
              refine zw_goto (np := 8) dX2_findNearest_108 (by decide) ?_
              exact zw.sub [3, 4, 5, 6, 0] rfl K
    · have K := K.2 c
      refine zw_iload 4 dX2_findNearest_25 rfl rfl ?_
      refine zw_goto (np := 39) dX2_findNearest_27 (by decide) ?_
      obtain ⟨j12, hj12, hn12, K⟩ := K
      refine zw_iald j12 dX2_findNearest_39 zs_38 ⟨hj12, hn12⟩ (by decide) rfl ?_
      refine zw_istore dX2_findNearest_40 (by decide) rfl rfl ?_
      refine zw_iload_n 3 dX2_findNearest_42 rfl rfl rfl ?_
      refine zw_if_eq (tg := 55) dX2_findNearest_43 (by decide) rfl (fun c => ?_) (fun c => ?_)
      · have K := K.1 c
        refine zw_iload_n 2 dX2_findNearest_55 rfl rfl rfl ?_
        refine zw_iload 0 dX2_findNearest_56 rfl rfl ?_
        obtain ⟨q13, ct, K⟩ := K
        refine zw_callSN (n := 2) (As := [.int v1, .int (h.1 38 j12)]) (rest := []) ct my_X7_isBelow rfl rfl k_X2_53 t_X7_isBelow dX2_findNearest_58 (by decide) (Nat.le_of_ble_eq_true rfl) (Nat.le_refl 0) (Nat.le_refl 0) rfl (fun r s1 h13 hq => ?_)
        obtain ⟨x13, rfl, rfl, hq⟩ := hq
        have K := K x13 h13 hq
        refine zw.st (st' := [.int x13]) rfl ?_
        refine zw_istore dX2_findNearest_61 (by decide) rfl rfl ?_
        refine zw_iload 0 dX2_findNearest_63 rfl rfl ?_
        refine zw_if_eq (tg := 105) dX2_findNearest_65 (by decide) rfl (fun c => ?_) (fun c => ?_)
        · have K := K.1 c
          refine zw_iinc (v := (v4 + (1 : Int32))) 6 dX2_findNearest_105 rfl rfl (by decide) rfl rfl ?_
          refine zw_goto (np := 8) dX2_findNearest_108 (by decide) ?_
          exact zw.sub [3, 4, 5, 6, 0] rfl K
        · have K := K.2 c
          refine zw_iload 1 dX2_findNearest_68 rfl rfl ?_
          refine zw_iload_n 5 dX2_findNearest_70 rfl rfl rfl ?_
          refine zw_icmp_eq (tg := 105) dX2_findNearest_71 (by decide) rfl (fun c => ?_) (fun c => ?_)
          · have K := K.1 c
            refine zw_iinc (v := (v4 + (1 : Int32))) 6 dX2_findNearest_105 rfl rfl (by decide) rfl rfl ?_
            refine zw_goto (np := 8) dX2_findNearest_108 (by decide) ?_
            exact zw.sub [3, 4, 5, 6, 0] rfl K
          · have K := K.2 c
            refine zw_aload_n 2 dX2_findNearest_74 rfl rfl rfl ?_
            refine zw_iload 1 dX2_findNearest_75 rfl rfl ?_
            refine zw_iload_n 4 dX2_findNearest_77 rfl rfl rfl ?_
            obtain ⟨q14, ct, K⟩ := K
            refine zw_callV (n := 2) (As := [.int (h.1 38 j12), .int v2]) (rest := []) ct my_X2_isBehindNearest rfl rfl k_X2_57 i_X2_isBehindNearest s_X2_isBehindNearest zs_37 rfl dX2_findNearest_78 (by decide) (Nat.le_of_ble_eq_true rfl) (Nat.le_refl 0) (Nat.le_refl 0) rfl (fun r s1 h14 hq => ?_)
            obtain ⟨x14, rfl, rfl, hq⟩ := hq
            have K := K x14 h14 hq
            refine zw.st (st' := [.int x14]) rfl ?_
            refine zw_if_ne (tg := 105) dX2_findNearest_81 (by decide) rfl (fun c => ?_) (fun c => ?_)
            · have K := K.1 c
              refine zw_iinc (v := (v4 + (1 : Int32))) 6 dX2_findNearest_105 rfl rfl (by decide) rfl rfl ?_
              refine zw_goto (np := 8) dX2_findNearest_108 (by decide) ?_
              exact zw.sub [3, 4, 5, 6, 0] rfl K
            · have K := K.2 c
              refine zw_aload_n 2 dX2_findNearest_84 rfl rfl rfl ?_
              refine zw_getR f_X2_24 dX2_findNearest_85 zs_37 rfl rfl ?_
              refine zw_aload_n 2 dX2_findNearest_88 rfl rfl rfl ?_
              refine zw_getI f_X2_50 dX2_findNearest_89 zs_37 rfl rfl ?_
              refine zw_iload 1 dX2_findNearest_92 rfl rfl ?_
              obtain ⟨j15, hj15, hn15, K⟩ := K
              refine zw_iast j15 dX2_findNearest_94 zs_42 ⟨hj15, hn15⟩ (by decide) rfl ?_
              generalize e16 : zw_sI h14 42 j15 (h.1 38 j12) = h16
              have K := K h16 e16.symm
              refine zw_aload_n 2 dX2_findNearest_95 rfl rfl rfl ?_
              refine zw_dup dX2_findNearest_96 rfl rfl ?_
              refine zw_getI f_X2_50 dX2_findNearest_97 zs_37 rfl rfl ?_
              refine zw_iconst (v := (1 : Int32)) dX2_findNearest_100 (by decide) rfl ?_
              refine zw_iadd dX2_findNearest_101 rfl ?_
              refine zw_putI f_X2_50 cl_X2 rfl ⟨rfl, rfl⟩ dX2_findNearest_102 zs_37 rfl rfl ?_
              generalize e17 : zw_sI h16 37 6 ((h16.1 37 6) + (1 : Int32)) = h17
              have K := K h17 e17.symm
              refine zw_iinc (v := (v4 + (1 : Int32))) 6 dX2_findNearest_105 rfl rfl (by decide) rfl rfl ?_
              refine zw_goto (np := 8) dX2_findNearest_108 (by decide) ?_
              exact zw.sub [3, 4, 5, 6, 0] rfl K
      · have K := K.2 c
        refine zw_iload 0 dX2_findNearest_46 rfl rfl ?_
        refine zw_iload_n 2 dX2_findNearest_48 rfl rfl rfl ?_
        obtain ⟨q18, ct, K⟩ := K
        refine zw_callSN (n := 2) (As := [.int (h.1 38 j12), .int v1]) (rest := []) ct my_X7_isBelow rfl rfl k_X2_53 t_X7_isBelow dX2_findNearest_49 (by decide) (Nat.le_of_ble_eq_true rfl) (Nat.le_refl 0) (Nat.le_refl 0) rfl (fun r s1 h18 hq => ?_)
        obtain ⟨x18, rfl, rfl, hq⟩ := hq
        have K := K x18 h18 hq
        refine zw.st (st' := [.int x18]) rfl ?_
        refine zw_goto (np := 61) dX2_findNearest_52 (by decide) ?_
        refine zw_istore dX2_findNearest_61 (by decide) rfl rfl ?_
        refine zw_iload 0 dX2_findNearest_63 rfl rfl ?_
        refine zw_if_eq (tg := 105) dX2_findNearest_65 (by decide) rfl (fun c => ?_) (fun c => ?_)
        · have K := K.1 c
          refine zw_iinc (v := (v4 + (1 : Int32))) 6 dX2_findNearest_105 rfl rfl (by decide) rfl rfl ?_
          refine zw_goto (np := 8) dX2_findNearest_108 (by decide) ?_
          exact zw.sub [3, 4, 5, 6, 0] rfl K
        · have K := K.2 c
          refine zw_iload 1 dX2_findNearest_68 rfl rfl ?_
          refine zw_iload_n 5 dX2_findNearest_70 rfl rfl rfl ?_
          refine zw_icmp_eq (tg := 105) dX2_findNearest_71 (by decide) rfl (fun c => ?_) (fun c => ?_)
          · have K := K.1 c
            refine zw_iinc (v := (v4 + (1 : Int32))) 6 dX2_findNearest_105 rfl rfl (by decide) rfl rfl ?_
            refine zw_goto (np := 8) dX2_findNearest_108 (by decide) ?_
            exact zw.sub [3, 4, 5, 6, 0] rfl K
          · have K := K.2 c
            refine zw_aload_n 2 dX2_findNearest_74 rfl rfl rfl ?_
            refine zw_iload 1 dX2_findNearest_75 rfl rfl ?_
            refine zw_iload_n 4 dX2_findNearest_77 rfl rfl rfl ?_
            obtain ⟨q19, ct, K⟩ := K
            refine zw_callV (n := 2) (As := [.int (h.1 38 j12), .int v2]) (rest := []) ct my_X2_isBehindNearest rfl rfl k_X2_57 i_X2_isBehindNearest s_X2_isBehindNearest zs_37 rfl dX2_findNearest_78 (by decide) (Nat.le_of_ble_eq_true rfl) (Nat.le_refl 0) (Nat.le_refl 0) rfl (fun r s1 h19 hq => ?_)
            obtain ⟨x19, rfl, rfl, hq⟩ := hq
            have K := K x19 h19 hq
            refine zw.st (st' := [.int x19]) rfl ?_
            refine zw_if_ne (tg := 105) dX2_findNearest_81 (by decide) rfl (fun c => ?_) (fun c => ?_)
            · have K := K.1 c
              refine zw_iinc (v := (v4 + (1 : Int32))) 6 dX2_findNearest_105 rfl rfl (by decide) rfl rfl ?_
              refine zw_goto (np := 8) dX2_findNearest_108 (by decide) ?_
              exact zw.sub [3, 4, 5, 6, 0] rfl K
            · have K := K.2 c
              refine zw_aload_n 2 dX2_findNearest_84 rfl rfl rfl ?_
              refine zw_getR f_X2_24 dX2_findNearest_85 zs_37 rfl rfl ?_
              refine zw_aload_n 2 dX2_findNearest_88 rfl rfl rfl ?_
              refine zw_getI f_X2_50 dX2_findNearest_89 zs_37 rfl rfl ?_
              refine zw_iload 1 dX2_findNearest_92 rfl rfl ?_
              obtain ⟨j20, hj20, hn20, K⟩ := K
              refine zw_iast j20 dX2_findNearest_94 zs_42 ⟨hj20, hn20⟩ (by decide) rfl ?_
              generalize e21 : zw_sI h19 42 j20 (h.1 38 j12) = h21
              have K := K h21 e21.symm
              refine zw_aload_n 2 dX2_findNearest_95 rfl rfl rfl ?_
              refine zw_dup dX2_findNearest_96 rfl rfl ?_
              refine zw_getI f_X2_50 dX2_findNearest_97 zs_37 rfl rfl ?_
              refine zw_iconst (v := (1 : Int32)) dX2_findNearest_100 (by decide) rfl ?_
              refine zw_iadd dX2_findNearest_101 rfl ?_
              refine zw_putI f_X2_50 cl_X2 rfl ⟨rfl, rfl⟩ dX2_findNearest_102 zs_37 rfl rfl ?_
              generalize e22 : zw_sI h21 37 6 ((h21.1 37 6) + (1 : Int32)) = h22
              have K := K h22 e22.symm
              refine zw_iinc (v := (v4 + (1 : Int32))) 6 dX2_findNearest_105 rfl rfl (by decide) rfl rfl ?_
              refine zw_goto (np := 8) dX2_findNearest_108 (by decide) ?_
              exact zw.sub [3, 4, 5, 6, 0] rfl K

set_option maxRecDepth 100000 in
set_option maxHeartbeats 4000000 in
theorem rX2_isBehindNearest_0 {q : Int32 → zw_H → Prop} {h : zw_H} {v1 v2 : Int32} (K : zwI 1 mX2_isBehindNearest q 2 [(0, .ref 37), (1, .int v1), (2, .int v2), (3, .int (0 : Int32))] [] h) : zwI 1 mX2_isBehindNearest q 0 [(0, .ref 37), (1, .int v1), (2, .int v2)] [] h := by
  refine zw_iconst (v := (0 : Int32)) dX2_isBehindNearest_0 (by decide) rfl ?_
  refine zw_istore_n dX2_isBehindNearest_1 rfl (by decide) rfl rfl ?_
  exact zw.sub [1, 2, 3, 0] rfl K

set_option maxRecDepth 100000 in
set_option maxHeartbeats 4000000 in
theorem rX2_isBehindNearest_2 {q : Int32 → zw_H → Prop} {h : zw_H} {v1 v2 v3 : Int32} (K : (((h.1 37 6) ≤ v3 → q (0 : Int32) h) ∧ (¬ (h.1 37 6) ≤ v3 → ((v2 = 0 → (∃ j1 : Nat, v3 = nI j1 ∧ j1 < 203 ∧ (∃ q2 : Int32 → zw_H → Prop, zcI 0 mX7_isBelow [.int (h.1 42 j1), .int v1] h q2 ∧ (∀ (x2 : Int32) (h2 : zw_H), q2 x2 h2 → ((x2 = 0 → zwI 1 mX2_isBehindNearest q 2 [(0, .ref 37), (1, .int v1), (2, .int v2), (3, .int (v3 + (1 : Int32)))] [] h2) ∧ (¬ x2 = 0 → q (1 : Int32) h2)))))) ∧ (¬ v2 = 0 → (∃ j3 : Nat, v3 = nI j3 ∧ j3 < 203 ∧ (∃ q4 : Int32 → zw_H → Prop, zcI 0 mX7_isBelow [.int v1, .int (h.1 42 j3)] h q4 ∧ (∀ (x4 : Int32) (h4 : zw_H), q4 x4 h4 → ((x4 = 0 → zwI 1 mX2_isBehindNearest q 2 [(0, .ref 37), (1, .int v1), (2, .int v2), (3, .int (v3 + (1 : Int32)))] [] h4) ∧ (¬ x4 = 0 → q (1 : Int32) h4)))))))))) : zwI 1 mX2_isBehindNearest q 2 [(0, .ref 37), (1, .int v1), (2, .int v2), (3, .int v3)] [] h := by
  refine zw_iload_n 3 dX2_isBehindNearest_2 rfl rfl rfl ?_
  refine zw_aload_n 0 dX2_isBehindNearest_3 rfl rfl rfl ?_
  refine zw_getI f_X2_50 dX2_isBehindNearest_4 zs_37 rfl rfl ?_
  refine zw_icmp_ge (tg := 51) dX2_isBehindNearest_7 (by decide) rfl (fun c => ?_) (fun c => ?_)
  · have K := K.1 c
    refine zw_iconst (v := (0 : Int32)) dX2_isBehindNearest_51 (by decide) rfl ?_
    exact zw_ireturn (ty := .boolean) dX2_isBehindNearest_52 rfl rfl (Nat.le_refl 0) (Nat.le_refl 0) ⟨_, rfl, rfl, K⟩
  · have K := K.2 c
    refine zw_iload_n 2 dX2_isBehindNearest_10 rfl rfl rfl ?_
    refine zw_if_eq (tg := 30) dX2_isBehindNearest_11 (by decide) rfl (fun c => ?_) (fun c => ?_)
    · have K := K.1 c
      refine zw_aload_n 0 dX2_isBehindNearest_30 rfl rfl rfl ?_
      refine zw_getR f_X2_24 dX2_isBehindNearest_31 zs_37 rfl rfl ?_
      refine zw_iload_n 3 dX2_isBehindNearest_34 rfl rfl rfl ?_
      obtain ⟨j1, hj1, hn1, K⟩ := K
      refine zw_iald j1 dX2_isBehindNearest_35 zs_42 ⟨hj1, hn1⟩ (by decide) rfl ?_
      refine zw_iload_n 1 dX2_isBehindNearest_36 rfl rfl rfl ?_
      obtain ⟨q2, ct, K⟩ := K
      refine zw_callSN (n := 2) (As := [.int (h.1 42 j1), .int v1]) (rest := []) ct my_X7_isBelow rfl rfl k_X2_53 t_X7_isBelow dX2_isBehindNearest_37 (by decide) (Nat.le_of_ble_eq_true rfl) (Nat.le_refl 0) (Nat.le_refl 0) rfl (fun r s1 h2 hq => ?_)
      obtain ⟨x2, rfl, rfl, hq⟩ := hq
      have K := K x2 h2 hq
      refine zw.st (st' := [.int x2]) rfl ?_
      refine zw_if_eq (tg := 45) dX2_isBehindNearest_40 (by decide) rfl (fun c => ?_) (fun c => ?_)
      · have K := K.1 c
        refine zw_iinc (v := (v3 + (1 : Int32))) 3 dX2_isBehindNearest_45 rfl rfl (by decide) rfl rfl ?_
        refine zw_goto (np := 2) dX2_isBehindNearest_48 (by decide) ?_
        exact zw.sub [1, 2, 3, 0] rfl K
      · have K := K.2 c
        refine zw_iconst (v := (1 : Int32)) dX2_isBehindNearest_43 (by decide) rfl ?_
        exact zw_ireturn (ty := .boolean) dX2_isBehindNearest_44 rfl rfl (Nat.le_refl 0) (Nat.le_refl 0) ⟨_, rfl, rfl, K⟩
    · have K := K.2 c
      refine zw_iload_n 1 dX2_isBehindNearest_14 rfl rfl rfl ?_
      refine zw_aload_n 0 dX2_isBehindNearest_15 rfl rfl rfl ?_
      refine zw_getR f_X2_24 dX2_isBehindNearest_16 zs_37 rfl rfl ?_
      refine zw_iload_n 3 dX2_isBehindNearest_19 rfl rfl rfl ?_
      obtain ⟨j3, hj3, hn3, K⟩ := K
      refine zw_iald j3 dX2_isBehindNearest_20 zs_42 ⟨hj3, hn3⟩ (by decide) rfl ?_
      obtain ⟨q4, ct, K⟩ := K
      refine zw_callSN (n := 2) (As := [.int v1, .int (h.1 42 j3)]) (rest := []) ct my_X7_isBelow rfl rfl k_X2_53 t_X7_isBelow dX2_isBehindNearest_21 (by decide) (Nat.le_of_ble_eq_true rfl) (Nat.le_refl 0) (Nat.le_refl 0) rfl (fun r s1 h4 hq => ?_)
      obtain ⟨x4, rfl, rfl, hq⟩ := hq
      have K := K x4 h4 hq
      refine zw.st (st' := [.int x4]) rfl ?_
      refine zw_if_eq (tg := 45) dX2_isBehindNearest_24 (by decide) rfl (fun c => ?_) (fun c => ?_)
      · have K := K.1 c
        refine zw_iinc (v := (v3 + (1 : Int32))) 3 dX2_isBehindNearest_45 rfl rfl (by decide) rfl rfl ?_
        refine zw_goto (np := 2) dX2_isBehindNearest_48 (by decide) ?_
        exact zw.sub [1, 2, 3, 0] rfl K
      · have K := K.2 c
        refine zw_goto (np := 43) dX2_isBehindNearest_27 (by decide) ?_
        refine zw_iconst (v := (1 : Int32)) dX2_isBehindNearest_43 (by decide) rfl ?_
        exact zw_ireturn (ty := .boolean) dX2_isBehindNearest_44 rfl rfl (Nat.le_refl 0) (Nat.le_refl 0) ⟨_, rfl, rfl, K⟩

set_option maxRecDepth 100000 in
set_option maxHeartbeats 4000000 in
theorem rX3_spell_0 {q : zw_H → Prop} {h : zw_H} {o la ma : Nat} {v1 v2 : Int32} (ho : zSH[o]? = some (.inl (3, [some (some la), some (some ma), none, none]))) (hla : zSH[la]? = some (.inr (0, 6, fun _ => none))) (hma : zSH[ma]? = some (.inr (0, 6, fun _ => none))) (K : (∀ h1 : zw_H, h1 = zw_sI h o 2 (zmin v2 (6 : Int32)) → (∀ h2 : zw_H, h2 = zw_sI h1 o 3 (0 : Int32) → zwV 2 mX3_spell q 17 [(0, .ref o), (1, .int v1), (3, .int (0 : Int32))] [] h2))) : zwV 2 mX3_spell q 0 [(0, .ref o), (1, .int v1), (2, .int v2)] [] h := by
  refine zw_aload_n 0 dX3_spell_0 rfl rfl rfl ?_
  refine zw_iload_n 2 dX3_spell_1 rfl rfl rfl ?_
  refine zw_bipush (v := (6 : Int32)) dX3_spell_2 (by decide) rfl ?_
  refine zw_min k_X3_18 dX3_spell_4 (by decide) (Nat.le_of_ble_eq_true rfl) (Nat.le_refl 0) (Nat.le_refl 0) rfl ?_
  refine zw_putI f_X3_24 cl_X3 rfl ⟨rfl, rfl⟩ dX3_spell_7 ho rfl rfl ?_
  generalize e1 : zw_sI h o 2 (zmin v2 (6 : Int32)) = h1
  have K := K h1 e1.symm
  refine zw_aload_n 0 dX3_spell_10 rfl rfl rfl ?_
  refine zw_iconst (v := (0 : Int32)) dX3_spell_11 (by decide) rfl ?_
  refine zw_putI f_X3_28 cl_X3 rfl ⟨rfl, rfl⟩ dX3_spell_12 ho rfl rfl ?_
  generalize e2 : zw_sI h1 o 3 (0 : Int32) = h2
  have K := K h2 e2.symm
  refine zw_iconst (v := (0 : Int32)) dX3_spell_15 (by decide) rfl ?_
  refine zw_istore_n dX3_spell_16 rfl (by decide) rfl rfl ?_
  exact zw.sub [1, 2, 0] rfl K

set_option maxRecDepth 100000 in
set_option maxHeartbeats 4000000 in
theorem rX3_spell_17 {q : zw_H → Prop} {h : zw_H} {o la ma : Nat} {v1 v3 : Int32} (ho : zSH[o]? = some (.inl (3, [some (some la), some (some ma), none, none]))) (hla : zSH[la]? = some (.inr (0, 6, fun _ => none))) (hma : zSH[ma]? = some (.inr (0, 6, fun _ => none))) (K : (((h.1 o 2) ≤ v3 → q h) ∧ (¬ (h.1 o 2) ≤ v3 → (∃ q1 : Int32 → zw_H → Prop, zcI 1 mX3_labelOfPartner [.ref o, .int v1, .int v3] h q1 ∧ (∀ (x1 : Int32) (h1 : zw_H), q1 x1 h1 → ((¬ x1 = (h1.1 o 3) → (∃ j2 : Nat, v3 = nI j2 ∧ j2 < 6 ∧ ∀ h3 : zw_H, h3 = zw_sI h1 la j2 x1 → (∃ j4 : Nat, x1 = nI j4 ∧ j4 < 6 ∧ (∃ j5 : Nat, x1 = nI j5 ∧ j5 < 6 ∧ ∀ h6 : zw_H, h6 = zw_sI h3 ma j5 ((h3.1 ma j4) ||| ((1 : Int32) <<< (v3 &&& 31))) → zwV 2 mX3_spell q 17 [(0, .ref o), (1, .int v1), (3, .int (v3 + (1 : Int32)))] [] h6)))) ∧ (x1 = (h1.1 o 3) → (∃ j7 : Nat, x1 = nI j7 ∧ j7 < 6 ∧ ∀ h8 : zw_H, h8 = zw_sI h1 ma j7 (0 : Int32) → (∀ h9 : zw_H, h9 = zw_sI h8 o 3 ((h8.1 o 3) + (1 : Int32)) → (∃ j10 : Nat, v3 = nI j10 ∧ j10 < 6 ∧ ∀ h11 : zw_H, h11 = zw_sI h9 la j10 x1 → (∃ j12 : Nat, x1 = nI j12 ∧ j12 < 6 ∧ (∃ j13 : Nat, x1 = nI j13 ∧ j13 < 6 ∧ ∀ h14 : zw_H, h14 = zw_sI h11 ma j13 ((h11.1 ma j12) ||| ((1 : Int32) <<< (v3 &&& 31))) → zwV 2 mX3_spell q 17 [(0, .ref o), (1, .int v1), (3, .int (v3 + (1 : Int32)))] [] h14)))))))))))) : zwV 2 mX3_spell q 17 [(0, .ref o), (1, .int v1), (3, .int v3)] [] h := by
  refine zw_iload_n 2 dX3_spell_17 rfl rfl rfl ?_
  refine zw_aload_n 0 dX3_spell_18 rfl rfl rfl ?_
  refine zw_getI f_X3_24 dX3_spell_19 ho rfl rfl ?_
  refine zw_icmp_ge (tg := 87) dX3_spell_22 (by decide) rfl (fun c => ?_) (fun c => ?_)
  · have K := K.1 c
    exact zw_return dX3_spell_87 rfl (Nat.le_refl 0) (Nat.le_refl 0) ⟨rfl, rfl, K⟩
  · have K := K.2 c
    refine zw_aload_n 0 dX3_spell_25 rfl rfl rfl ?_
    refine zw_iload_n 1 dX3_spell_26 rfl rfl rfl ?_
    refine zw_iload_n 2 dX3_spell_27 rfl rfl rfl ?_
    obtain ⟨q1, ct, K⟩ := K
    refine zw_callV (n := 2) (As := [.int v1, .int v3]) (rest := []) ct my_X3_labelOfPartner rfl rfl k_X3_31 i_X3_labelOfPartner s_X3_labelOfPartner ho rfl dX3_spell_28 (by decide) (Nat.le_of_ble_eq_true rfl) (Nat.le_refl 0) (Nat.le_refl 0) rfl (fun r s1 h1 hq => ?_)
    obtain ⟨x1, rfl, rfl, hq⟩ := hq
    have K := K x1 h1 hq
    refine zw.st (st' := [.int x1]) rfl ?_
    refine zw_istore dX3_spell_31 (by decide) rfl rfl ?_
    refine zw_iload 0 dX3_spell_33 rfl rfl ?_
    refine zw_aload_n 1 dX3_spell_35 rfl rfl rfl ?_
    refine zw_getI f_X3_28 dX3_spell_36 ho rfl rfl ?_
    refine zw_icmp_ne (tg := 60) dX3_spell_39 (by decide) rfl (fun c => ?_) (fun c => ?_)
    · have K := K.1 c
      refine zw_aload_n 1 dX3_spell_60 rfl rfl rfl ?_
      refine zw_getR f_X3_9 dX3_spell_61 ho rfl rfl ?_
      refine zw_iload_n 3 dX3_spell_64 rfl rfl rfl ?_
      refine zw_iload 0 dX3_spell_65 rfl rfl ?_
      obtain ⟨j2, hj2, hn2, K⟩ := K
      refine zw_iast j2 dX3_spell_67 hla ⟨hj2, hn2⟩ (by decide) rfl ?_
      generalize e3 : zw_sI h1 la j2 x1 = h3
      have K := K h3 e3.symm
      refine zw_aload_n 1 dX3_spell_68 rfl rfl rfl ?_
      refine zw_getR f_X3_15 dX3_spell_69 ho rfl rfl ?_
      refine zw_iload 0 dX3_spell_72 rfl rfl ?_
      refine zw_dup2 dX3_spell_74 rfl rfl rfl ?_
      obtain ⟨j4, hj4, hn4, K⟩ := K
      refine zw_iald j4 dX3_spell_75 hma ⟨hj4, hn4⟩ (by decide) rfl ?_
      refine zw_iconst (v := (1 : Int32)) dX3_spell_76 (by decide) rfl ?_
      refine zw_iload_n 3 dX3_spell_77 rfl rfl rfl ?_
      refine zw_ishl dX3_spell_78 rfl ?_
      refine zw_ior dX3_spell_79 rfl ?_
      obtain ⟨j5, hj5, hn5, K⟩ := K
      refine zw_iast j5 dX3_spell_80 hma ⟨hj5, hn5⟩ (by decide) rfl ?_
      generalize e6 : zw_sI h3 ma j5 ((h3.1 ma j4) ||| ((1 : Int32) <<< (v3 &&& 31))) = h6
      have K := K h6 e6.symm
      refine zw_iinc (v := (v3 + (1 : Int32))) 3 dX3_spell_81 rfl rfl (by decide) rfl rfl ?_
      refine zw_goto (np := 17) dX3_spell_84 (by decide) ?_
      exact zw.sub [2, 3, 0] rfl K
    · have K := K.2 c
      refine zw_aload_n 1 dX3_spell_42 rfl rfl rfl ?_
      refine zw_getR f_X3_15 dX3_spell_43 ho rfl rfl ?_
      refine zw_iload 0 dX3_spell_46 rfl rfl ?_
      refine zw_iconst (v := (0 : Int32)) dX3_spell_48 (by decide) rfl ?_
      obtain ⟨j7, hj7, hn7, K⟩ := K
      refine zw_iast j7 dX3_spell_49 hma ⟨hj7, hn7⟩ (by decide) rfl ?_
      generalize e8 : zw_sI h1 ma j7 (0 : Int32) = h8
      have K := K h8 e8.symm
      refine zw_aload_n 1 dX3_spell_50 rfl rfl rfl ?_
      refine zw_dup dX3_spell_51 rfl rfl ?_
      refine zw_getI f_X3_28 dX3_spell_52 ho rfl rfl ?_
      refine zw_iconst (v := (1 : Int32)) dX3_spell_55 (by decide) rfl ?_
      refine zw_iadd dX3_spell_56 rfl ?_
      refine zw_putI f_X3_28 cl_X3 rfl ⟨rfl, rfl⟩ dX3_spell_57 ho rfl rfl ?_
      generalize e9 : zw_sI h8 o 3 ((h8.1 o 3) + (1 : Int32)) = h9
      have K := K h9 e9.symm
      refine zw_aload_n 1 dX3_spell_60 rfl rfl rfl ?_
      refine zw_getR f_X3_9 dX3_spell_61 ho rfl rfl ?_
      refine zw_iload_n 3 dX3_spell_64 rfl rfl rfl ?_
      refine zw_iload 0 dX3_spell_65 rfl rfl ?_
      obtain ⟨j10, hj10, hn10, K⟩ := K
      refine zw_iast j10 dX3_spell_67 hla ⟨hj10, hn10⟩ (by decide) rfl ?_
      generalize e11 : zw_sI h9 la j10 x1 = h11
      have K := K h11 e11.symm
      refine zw_aload_n 1 dX3_spell_68 rfl rfl rfl ?_
      refine zw_getR f_X3_15 dX3_spell_69 ho rfl rfl ?_
      refine zw_iload 0 dX3_spell_72 rfl rfl ?_
      refine zw_dup2 dX3_spell_74 rfl rfl rfl ?_
      obtain ⟨j12, hj12, hn12, K⟩ := K
      refine zw_iald j12 dX3_spell_75 hma ⟨hj12, hn12⟩ (by decide) rfl ?_
      refine zw_iconst (v := (1 : Int32)) dX3_spell_76 (by decide) rfl ?_
      refine zw_iload_n 3 dX3_spell_77 rfl rfl rfl ?_
      refine zw_ishl dX3_spell_78 rfl ?_
      refine zw_ior dX3_spell_79 rfl ?_
      obtain ⟨j13, hj13, hn13, K⟩ := K
      refine zw_iast j13 dX3_spell_80 hma ⟨hj13, hn13⟩ (by decide) rfl ?_
      generalize e14 : zw_sI h11 ma j13 ((h11.1 ma j12) ||| ((1 : Int32) <<< (v3 &&& 31))) = h14
      have K := K h14 e14.symm
      refine zw_iinc (v := (v3 + (1 : Int32))) 3 dX3_spell_81 rfl rfl (by decide) rfl rfl ?_
      refine zw_goto (np := 17) dX3_spell_84 (by decide) ?_
      exact zw.sub [2, 3, 0] rfl K

set_option maxRecDepth 100000 in
set_option maxHeartbeats 4000000 in
theorem rX3_labelOfPartner_0 {q : Int32 → zw_H → Prop} {h : zw_H} {o la ma : Nat} {v1 v2 : Int32} (ho : zSH[o]? = some (.inl (3, [some (some la), some (some ma), none, none]))) (hla : zSH[la]? = some (.inr (0, 6, fun _ => none))) (hma : zSH[ma]? = some (.inr (0, 6, fun _ => none))) (K : zwI 1 mX3_labelOfPartner q 2 [(0, .ref o), (1, .int v1), (2, .int v2), (3, .int (0 : Int32))] [] h) : zwI 1 mX3_labelOfPartner q 0 [(0, .ref o), (1, .int v1), (2, .int v2)] [] h := by
  refine zw_iconst (v := (0 : Int32)) dX3_labelOfPartner_0 (by decide) rfl ?_
  refine zw_istore_n dX3_labelOfPartner_1 rfl (by decide) rfl rfl ?_
  exact zw.sub [1, 2, 3, 0] rfl K

set_option maxRecDepth 100000 in
set_option maxHeartbeats 4000000 in
theorem rX3_labelOfPartner_2 {q : Int32 → zw_H → Prop} {h : zw_H} {o la ma : Nat} {v1 v2 v3 : Int32} (ho : zSH[o]? = some (.inl (3, [some (some la), some (some ma), none, none]))) (hla : zSH[la]? = some (.inr (0, 6, fun _ => none))) (hma : zSH[ma]? = some (.inr (0, 6, fun _ => none))) (K : ((v2 ≤ v3 → q (h.1 o 3) h) ∧ (¬ v2 ≤ v3 → (∃ q1 : Int32 → zw_H → Prop, zcI 0 mX7_pairBit [.int v3, .int v2] h q1 ∧ (∀ (x1 : Int32) (h1 : zw_H), q1 x1 h1 → (((v1 &&& x1) = 0 → zwI 1 mX3_labelOfPartner q 2 [(0, .ref o), (1, .int v1), (2, .int v2), (3, .int (v3 + (1 : Int32)))] [] h1) ∧ (¬ (v1 &&& x1) = 0 → (∃ j2 : Nat, v3 = nI j2 ∧ j2 < 6 ∧ q (h1.1 la j2) h1)))))))) : zwI 1 mX3_labelOfPartner q 2 [(0, .ref o), (1, .int v1), (2, .int v2), (3, .int v3)] [] h := by
  refine zw_iload_n 3 dX3_labelOfPartner_2 rfl rfl rfl ?_
  refine zw_iload_n 2 dX3_labelOfPartner_3 rfl rfl rfl ?_
  refine zw_icmp_ge (tg := 30) dX3_labelOfPartner_4 (by decide) rfl (fun c => ?_) (fun c => ?_)
  · have K := K.1 c
    refine zw_aload_n 0 dX3_labelOfPartner_30 rfl rfl rfl ?_
    refine zw_getI f_X3_28 dX3_labelOfPartner_31 ho rfl rfl ?_
    exact zw_ireturn (ty := .int) dX3_labelOfPartner_34 rfl rfl (Nat.le_refl 0) (Nat.le_refl 0) ⟨_, rfl, rfl, K⟩
  · have K := K.2 c
    refine zw_iload_n 1 dX3_labelOfPartner_7 rfl rfl rfl ?_
    refine zw_iload_n 3 dX3_labelOfPartner_8 rfl rfl rfl ?_
    refine zw_iload_n 2 dX3_labelOfPartner_9 rfl rfl rfl ?_
    obtain ⟨q1, ct, K⟩ := K
    refine zw_callSN (n := 2) (As := [.int v3, .int v2]) (rest := [.int v1]) ct my_X7_pairBit rfl rfl k_X3_34 t_X7_pairBit dX3_labelOfPartner_10 (by decide) (Nat.le_of_ble_eq_true rfl) (Nat.le_refl 0) (Nat.le_refl 0) rfl (fun r s1 h1 hq => ?_)
    obtain ⟨x1, rfl, rfl, hq⟩ := hq
    have K := K x1 h1 hq
    refine zw.st (st' := [.int x1, .int v1]) rfl ?_
    refine zw_iand dX3_labelOfPartner_13 rfl ?_
    refine zw_if_eq (tg := 24) dX3_labelOfPartner_14 (by decide) rfl (fun c => ?_) (fun c => ?_)
    · have K := K.1 c
      refine zw_iinc (v := (v3 + (1 : Int32))) 3 dX3_labelOfPartner_24 rfl rfl (by decide) rfl rfl ?_
      refine zw_goto (np := 2) dX3_labelOfPartner_27 (by decide) ?_
      exact zw.sub [1, 2, 3, 0] rfl K
    · have K := K.2 c
      refine zw_aload_n 0 dX3_labelOfPartner_17 rfl rfl rfl ?_
      refine zw_getR f_X3_9 dX3_labelOfPartner_18 ho rfl rfl ?_
      refine zw_iload_n 3 dX3_labelOfPartner_21 rfl rfl rfl ?_
      obtain ⟨j2, hj2, hn2, K⟩ := K
      refine zw_iald j2 dX3_labelOfPartner_22 hla ⟨hj2, hn2⟩ (by decide) rfl ?_
      exact zw_ireturn (ty := .int) dX3_labelOfPartner_23 rfl rfl (Nat.le_refl 0) (Nat.le_refl 0) ⟨_, rfl, rfl, K⟩

set_option maxRecDepth 100000 in
set_option maxHeartbeats 4000000 in
theorem rX3_growthNumber_0 {q : Int32 → zw_H → Prop} {h : zw_H} {o la ma : Nat} (ho : zSH[o]? = some (.inl (3, [some (some la), some (some ma), none, none]))) (hla : zSH[la]? = some (.inr (0, 6, fun _ => none))) (hma : zSH[ma]? = some (.inr (0, 6, fun _ => none))) (K : zwI 0 mX3_growthNumber q 4 [(0, .ref o), (1, .int (0 : Int32)), (2, .int (0 : Int32))] [] h) : zwI 0 mX3_growthNumber q 0 [(0, .ref o)] [] h := by
  refine zw_iconst (v := (0 : Int32)) dX3_growthNumber_0 (by decide) rfl ?_
  refine zw_istore_n dX3_growthNumber_1 rfl (by decide) rfl rfl ?_
  refine zw_iconst (v := (0 : Int32)) dX3_growthNumber_2 (by decide) rfl ?_
  refine zw_istore_n dX3_growthNumber_3 rfl (by decide) rfl rfl ?_
  exact zw.sub [2, 1, 0] rfl K

set_option maxRecDepth 100000 in
set_option maxHeartbeats 4000000 in
theorem rX3_growthNumber_4 {q : Int32 → zw_H → Prop} {h : zw_H} {o la ma : Nat} {v1 v2 : Int32} (ho : zSH[o]? = some (.inl (3, [some (some la), some (some ma), none, none]))) (hla : zSH[la]? = some (.inr (0, 6, fun _ => none))) (hma : zSH[ma]? = some (.inr (0, 6, fun _ => none))) (K : (((h.1 o 2) ≤ v2 → q v1 h) ∧ (¬ (h.1 o 2) ≤ v2 → (∃ j1 : Nat, v2 = nI j1 ∧ j1 < 6 ∧ zwI 0 mX3_growthNumber q 4 [(0, .ref o), (1, .int ((v1 * (6 : Int32)) + (h.1 la j1))), (2, .int (v2 + (1 : Int32)))] [] h)))) : zwI 0 mX3_growthNumber q 4 [(0, .ref o), (1, .int v1), (2, .int v2)] [] h := by
  refine zw_iload_n 2 dX3_growthNumber_4 rfl rfl rfl ?_
  refine zw_aload_n 0 dX3_growthNumber_5 rfl rfl rfl ?_
  refine zw_getI f_X3_24 dX3_growthNumber_6 ho rfl rfl ?_
  refine zw_icmp_ge (tg := 30) dX3_growthNumber_9 (by decide) rfl (fun c => ?_) (fun c => ?_)
  · have K := K.1 c
    refine zw_iload_n 1 dX3_growthNumber_30 rfl rfl rfl ?_
    exact zw_ireturn (ty := .int) dX3_growthNumber_31 rfl rfl (Nat.le_refl 0) (Nat.le_refl 0) ⟨_, rfl, rfl, K⟩
  · have K := K.2 c
    refine zw_iload_n 1 dX3_growthNumber_12 rfl rfl rfl ?_
    refine zw_bipush (v := (6 : Int32)) dX3_growthNumber_13 (by decide) rfl ?_
    refine zw_imul dX3_growthNumber_15 rfl ?_
    refine zw_aload_n 0 dX3_growthNumber_16 rfl rfl rfl ?_
    refine zw_getR f_X3_9 dX3_growthNumber_17 ho rfl rfl ?_
    refine zw_iload_n 2 dX3_growthNumber_20 rfl rfl rfl ?_
    obtain ⟨j1, hj1, hn1, K⟩ := K
    refine zw_iald j1 dX3_growthNumber_21 hla ⟨hj1, hn1⟩ (by decide) rfl ?_
    refine zw_iadd dX3_growthNumber_22 rfl ?_
    refine zw_istore_n dX3_growthNumber_23 rfl (by decide) rfl rfl ?_
    refine zw_iinc (v := (v2 + (1 : Int32))) 2 dX3_growthNumber_24 rfl rfl (by decide) rfl rfl ?_
    refine zw_goto (np := 4) dX3_growthNumber_27 (by decide) ?_
    exact zw.sub [2, 1, 0] rfl K

set_option maxRecDepth 100000 in
set_option maxHeartbeats 4000000 in
theorem rX3_sizeSet_0 {q : Int32 → zw_H → Prop} {h : zw_H} {o la ma : Nat} (ho : zSH[o]? = some (.inl (3, [some (some la), some (some ma), none, none]))) (hla : zSH[la]? = some (.inr (0, 6, fun _ => none))) (hma : zSH[ma]? = some (.inr (0, 6, fun _ => none))) (K : zwI 1 mX3_sizeSet q 4 [(0, .ref o), (1, .int (0 : Int32)), (2, .int (0 : Int32))] [] h) : zwI 1 mX3_sizeSet q 0 [(0, .ref o)] [] h := by
  refine zw_iconst (v := (0 : Int32)) dX3_sizeSet_0 (by decide) rfl ?_
  refine zw_istore_n dX3_sizeSet_1 rfl (by decide) rfl rfl ?_
  refine zw_iconst (v := (0 : Int32)) dX3_sizeSet_2 (by decide) rfl ?_
  refine zw_istore_n dX3_sizeSet_3 rfl (by decide) rfl rfl ?_
  exact zw.sub [2, 1, 0] rfl K

set_option maxRecDepth 100000 in
set_option maxHeartbeats 4000000 in
theorem rX3_sizeSet_4 {q : Int32 → zw_H → Prop} {h : zw_H} {o la ma : Nat} {v1 v2 : Int32} (ho : zSH[o]? = some (.inl (3, [some (some la), some (some ma), none, none]))) (hla : zSH[la]? = some (.inr (0, 6, fun _ => none))) (hma : zSH[ma]? = some (.inr (0, 6, fun _ => none))) (K : (((h.1 o 3) ≤ v2 → q v1 h) ∧ (¬ (h.1 o 3) ≤ v2 → (∃ j1 : Nat, v2 = nI j1 ∧ j1 < 6 ∧ (∃ q2 : Int32 → zw_H → Prop, zcI 0 mJ6_bitCount_0f7a4 [.int (h.1 ma j1)] h q2 ∧ (∀ (x2 : Int32) (h2 : zw_H), q2 x2 h2 → zwI 1 mX3_sizeSet q 4 [(0, .ref o), (1, .int (v1 ||| ((1 : Int32) <<< (x2 &&& 31)))), (2, .int (v2 + (1 : Int32)))] [] h2)))))) : zwI 1 mX3_sizeSet q 4 [(0, .ref o), (1, .int v1), (2, .int v2)] [] h := by
  refine zw_iload_n 2 dX3_sizeSet_4 rfl rfl rfl ?_
  refine zw_aload_n 0 dX3_sizeSet_5 rfl rfl rfl ?_
  refine zw_getI f_X3_28 dX3_sizeSet_6 ho rfl rfl ?_
  refine zw_icmp_ge (tg := 32) dX3_sizeSet_9 (by decide) rfl (fun c => ?_) (fun c => ?_)
  · have K := K.1 c
    refine zw_iload_n 1 dX3_sizeSet_32 rfl rfl rfl ?_
    exact zw_ireturn (ty := .int) dX3_sizeSet_33 rfl rfl (Nat.le_refl 0) (Nat.le_refl 0) ⟨_, rfl, rfl, K⟩
  · have K := K.2 c
    refine zw_iload_n 1 dX3_sizeSet_12 rfl rfl rfl ?_
    refine zw_iconst (v := (1 : Int32)) dX3_sizeSet_13 (by decide) rfl ?_
    refine zw_aload_n 0 dX3_sizeSet_14 rfl rfl rfl ?_
    refine zw_getR f_X3_15 dX3_sizeSet_15 ho rfl rfl ?_
    refine zw_iload_n 2 dX3_sizeSet_18 rfl rfl rfl ?_
    obtain ⟨j1, hj1, hn1, K⟩ := K
    refine zw_iald j1 dX3_sizeSet_19 hma ⟨hj1, hn1⟩ (by decide) rfl ?_
    obtain ⟨q2, ct, K⟩ := K
    refine zw_callS (n := 1) (As := [.int (h.1 ma j1)]) (rest := [.int (1 : Int32), .int v1]) ct my_J6_bitCount_0f7a4 rfl rfl k_X3_37 t_J6_bitCount_0f7a4 dX3_sizeSet_20 (by decide) (Nat.le_of_ble_eq_true rfl) (Nat.le_refl 0) (Nat.le_refl 0) rfl (fun r s1 h2 hq => ?_)
    obtain ⟨x2, rfl, rfl, hq⟩ := hq
    have K := K x2 h2 hq
    refine zw.st (st' := [.int x2, .int (1 : Int32), .int v1]) rfl ?_
    refine zw_ishl dX3_sizeSet_23 rfl ?_
    refine zw_ior dX3_sizeSet_24 rfl ?_
    refine zw_istore_n dX3_sizeSet_25 rfl (by decide) rfl rfl ?_
    refine zw_iinc (v := (v2 + (1 : Int32))) 2 dX3_sizeSet_26 rfl rfl (by decide) rfl rfl ?_
    refine zw_goto (np := 4) dX3_sizeSet_29 (by decide) ?_
    exact zw.sub [2, 1, 0] rfl K

set_option maxRecDepth 100000 in
set_option maxHeartbeats 4000000 in
theorem rX3_typeNumber_0 {q : Int32 → zw_H → Prop} {h : zw_H} {o la ma : Nat} (ho : zSH[o]? = some (.inl (3, [some (some la), some (some ma), none, none]))) (hla : zSH[la]? = some (.inr (0, 6, fun _ => none))) (hma : zSH[ma]? = some (.inr (0, 6, fun _ => none))) (K : zwI 1 mX3_typeNumber q 4 [(0, .ref o), (1, .int (0 : Int32)), (2, .int (0 : Int32))] [] h) : zwI 1 mX3_typeNumber q 0 [(0, .ref o)] [] h := by
  refine zw_iconst (v := (0 : Int32)) dX3_typeNumber_0 (by decide) rfl ?_
  refine zw_istore_n dX3_typeNumber_1 rfl (by decide) rfl rfl ?_
  refine zw_iconst (v := (0 : Int32)) dX3_typeNumber_2 (by decide) rfl ?_
  refine zw_istore_n dX3_typeNumber_3 rfl (by decide) rfl rfl ?_
  exact zw.sub [2, 1, 0] rfl K

set_option maxRecDepth 100000 in
set_option maxHeartbeats 4000000 in
theorem rX3_typeNumber_4 {q : Int32 → zw_H → Prop} {h : zw_H} {o la ma : Nat} {v1 v2 : Int32} (ho : zSH[o]? = some (.inl (3, [some (some la), some (some ma), none, none]))) (hla : zSH[la]? = some (.inr (0, 6, fun _ => none))) (hma : zSH[ma]? = some (.inr (0, 6, fun _ => none))) (K : (((h.1 o 3) ≤ v2 → q v1 h) ∧ (¬ (h.1 o 3) ≤ v2 → (∃ j1 : Nat, v2 = nI j1 ∧ j1 < 6 ∧ (∃ q2 : Int32 → zw_H → Prop, zcI 0 mJ6_bitCount_0f7a4 [.int (h.1 ma j1)] h q2 ∧ (∀ (x2 : Int32) (h2 : zw_H), q2 x2 h2 → zwI 1 mX3_typeNumber q 4 [(0, .ref o), (1, .int (v1 + ((1 : Int32) <<< (((3 : Int32) * (x2 - (1 : Int32))) &&& 31)))), (2, .int (v2 + (1 : Int32)))] [] h2)))))) : zwI 1 mX3_typeNumber q 4 [(0, .ref o), (1, .int v1), (2, .int v2)] [] h := by
  refine zw_iload_n 2 dX3_typeNumber_4 rfl rfl rfl ?_
  refine zw_aload_n 0 dX3_typeNumber_5 rfl rfl rfl ?_
  refine zw_getI f_X3_28 dX3_typeNumber_6 ho rfl rfl ?_
  refine zw_icmp_ge (tg := 36) dX3_typeNumber_9 (by decide) rfl (fun c => ?_) (fun c => ?_)
  · have K := K.1 c
    refine zw_iload_n 1 dX3_typeNumber_36 rfl rfl rfl ?_
    exact zw_ireturn (ty := .int) dX3_typeNumber_37 rfl rfl (Nat.le_refl 0) (Nat.le_refl 0) ⟨_, rfl, rfl, K⟩
  · have K := K.2 c
    refine zw_iload_n 1 dX3_typeNumber_12 rfl rfl rfl ?_
    refine zw_iconst (v := (1 : Int32)) dX3_typeNumber_13 (by decide) rfl ?_
    refine zw_iconst (v := (3 : Int32)) dX3_typeNumber_14 (by decide) rfl ?_
    refine zw_aload_n 0 dX3_typeNumber_15 rfl rfl rfl ?_
    refine zw_getR f_X3_15 dX3_typeNumber_16 ho rfl rfl ?_
    refine zw_iload_n 2 dX3_typeNumber_19 rfl rfl rfl ?_
    obtain ⟨j1, hj1, hn1, K⟩ := K
    refine zw_iald j1 dX3_typeNumber_20 hma ⟨hj1, hn1⟩ (by decide) rfl ?_
    obtain ⟨q2, ct, K⟩ := K
    refine zw_callS (n := 1) (As := [.int (h.1 ma j1)]) (rest := [.int (3 : Int32), .int (1 : Int32), .int v1]) ct my_J6_bitCount_0f7a4 rfl rfl k_X3_37 t_J6_bitCount_0f7a4 dX3_typeNumber_21 (by decide) (Nat.le_of_ble_eq_true rfl) (Nat.le_refl 0) (Nat.le_refl 0) rfl (fun r s1 h2 hq => ?_)
    obtain ⟨x2, rfl, rfl, hq⟩ := hq
    have K := K x2 h2 hq
    refine zw.st (st' := [.int x2, .int (3 : Int32), .int (1 : Int32), .int v1]) rfl ?_
    refine zw_iconst (v := (1 : Int32)) dX3_typeNumber_24 (by decide) rfl ?_
    refine zw_isub dX3_typeNumber_25 rfl ?_
    refine zw_imul dX3_typeNumber_26 rfl ?_
    refine zw_ishl dX3_typeNumber_27 rfl ?_
    refine zw_iadd dX3_typeNumber_28 rfl ?_
    refine zw_istore_n dX3_typeNumber_29 rfl (by decide) rfl rfl ?_
    refine zw_iinc (v := (v2 + (1 : Int32))) 2 dX3_typeNumber_30 rfl rfl (by decide) rfl rfl ?_
    refine zw_goto (np := 4) dX3_typeNumber_33 (by decide) ?_
    exact zw.sub [2, 1, 0] rfl K

set_option maxRecDepth 100000 in
set_option maxHeartbeats 4000000 in
theorem rX3_firstBlockNotIn_0 {q : Int32 → zw_H → Prop} {h : zw_H} {o la ma : Nat} {v1 : Int32} (ho : zSH[o]? = some (.inl (3, [some (some la), some (some ma), none, none]))) (hla : zSH[la]? = some (.inr (0, 6, fun _ => none))) (hma : zSH[ma]? = some (.inr (0, 6, fun _ => none))) (K : zwI 1 mX3_firstBlockNotIn q 2 [(0, .ref o), (1, .int v1), (2, .int (0 : Int32))] [] h) : zwI 1 mX3_firstBlockNotIn q 0 [(0, .ref o), (1, .int v1)] [] h := by
  refine zw_iconst (v := (0 : Int32)) dX3_firstBlockNotIn_0 (by decide) rfl ?_
  refine zw_istore_n dX3_firstBlockNotIn_1 rfl (by decide) rfl rfl ?_
  exact zw.sub [1, 2, 0] rfl K

set_option maxRecDepth 100000 in
set_option maxHeartbeats 4000000 in
theorem rX3_firstBlockNotIn_2 {q : Int32 → zw_H → Prop} {h : zw_H} {o la ma : Nat} {v1 v2 : Int32} (ho : zSH[o]? = some (.inl (3, [some (some la), some (some ma), none, none]))) (hla : zSH[la]? = some (.inr (0, 6, fun _ => none))) (hma : zSH[ma]? = some (.inr (0, 6, fun _ => none))) (K : (((h.1 o 3) ≤ v2 → q (-9 : Int32) h) ∧ (¬ (h.1 o 3) ≤ v2 → (∃ j1 : Nat, v2 = nI j1 ∧ j1 < 6 ∧ (∃ q2 : Int32 → zw_H → Prop, zcI 0 mJ6_bitCount_0f7a4 [.int (h.1 ma j1)] h q2 ∧ (∀ (x2 : Int32) (h2 : zw_H), q2 x2 h2 → ((¬ ((v1 >>> (x2 &&& 31)) &&& (1 : Int32)) = 0 → zwI 1 mX3_firstBlockNotIn q 2 [(0, .ref o), (1, .int v1), (2, .int (v2 + (1 : Int32)))] [] h2) ∧ (((v1 >>> (x2 &&& 31)) &&& (1 : Int32)) = 0 → q v2 h2)))))))) : zwI 1 mX3_firstBlockNotIn q 2 [(0, .ref o), (1, .int v1), (2, .int v2)] [] h := by
  refine zw_iload_n 2 dX3_firstBlockNotIn_2 rfl rfl rfl ?_
  refine zw_aload_n 0 dX3_firstBlockNotIn_3 rfl rfl rfl ?_
  refine zw_getI f_X3_28 dX3_firstBlockNotIn_4 ho rfl rfl ?_
  refine zw_icmp_ge (tg := 34) dX3_firstBlockNotIn_7 (by decide) rfl (fun c => ?_) (fun c => ?_)
  · have K := K.1 c
    refine zw_bipush (v := (-9 : Int32)) dX3_firstBlockNotIn_34 (by decide) rfl ?_
    exact zw_ireturn (ty := .int) dX3_firstBlockNotIn_36 rfl rfl (Nat.le_refl 0) (Nat.le_refl 0) ⟨_, rfl, rfl, K⟩
  · have K := K.2 c
    refine zw_iload_n 1 dX3_firstBlockNotIn_10 rfl rfl rfl ?_
    refine zw_aload_n 0 dX3_firstBlockNotIn_11 rfl rfl rfl ?_
    refine zw_getR f_X3_15 dX3_firstBlockNotIn_12 ho rfl rfl ?_
    refine zw_iload_n 2 dX3_firstBlockNotIn_15 rfl rfl rfl ?_
    obtain ⟨j1, hj1, hn1, K⟩ := K
    refine zw_iald j1 dX3_firstBlockNotIn_16 hma ⟨hj1, hn1⟩ (by decide) rfl ?_
    obtain ⟨q2, ct, K⟩ := K
    refine zw_callS (n := 1) (As := [.int (h.1 ma j1)]) (rest := [.int v1]) ct my_J6_bitCount_0f7a4 rfl rfl k_X3_37 t_J6_bitCount_0f7a4 dX3_firstBlockNotIn_17 (by decide) (Nat.le_of_ble_eq_true rfl) (Nat.le_refl 0) (Nat.le_refl 0) rfl (fun r s1 h2 hq => ?_)
    obtain ⟨x2, rfl, rfl, hq⟩ := hq
    have K := K x2 h2 hq
    refine zw.st (st' := [.int x2, .int v1]) rfl ?_
    refine zw_ishr dX3_firstBlockNotIn_20 rfl ?_
    refine zw_iconst (v := (1 : Int32)) dX3_firstBlockNotIn_21 (by decide) rfl ?_
    refine zw_iand dX3_firstBlockNotIn_22 rfl ?_
    refine zw_if_ne (tg := 28) dX3_firstBlockNotIn_23 (by decide) rfl (fun c => ?_) (fun c => ?_)
    · have K := K.1 c
      refine zw_iinc (v := (v2 + (1 : Int32))) 2 dX3_firstBlockNotIn_28 rfl rfl (by decide) rfl rfl ?_
      refine zw_goto (np := 2) dX3_firstBlockNotIn_31 (by decide) ?_
      exact zw.sub [1, 2, 0] rfl K
    · have K := K.2 c
      refine zw_iload_n 2 dX3_firstBlockNotIn_26 rfl rfl rfl ?_
      exact zw_ireturn (ty := .int) dX3_firstBlockNotIn_27 rfl rfl (Nat.le_refl 0) (Nat.le_refl 0) ⟨_, rfl, rfl, K⟩

set_option maxRecDepth 100000 in
set_option maxHeartbeats 4000000 in
theorem rX3_crossingCount_0 {q : Int32 → zw_H → Prop} {h : zw_H} {o la ma : Nat} (ho : zSH[o]? = some (.inl (3, [some (some la), some (some ma), none, none]))) (hla : zSH[la]? = some (.inr (0, 6, fun _ => none))) (hma : zSH[ma]? = some (.inr (0, 6, fun _ => none))) (K : zwI 1 mX3_crossingCount q 4 [(0, .ref o), (1, .int (0 : Int32)), (2, .int (0 : Int32))] [] h) : zwI 1 mX3_crossingCount q 0 [(0, .ref o)] [] h := by
  refine zw_iconst (v := (0 : Int32)) dX3_crossingCount_0 (by decide) rfl ?_
  refine zw_istore_n dX3_crossingCount_1 rfl (by decide) rfl rfl ?_
  refine zw_iconst (v := (0 : Int32)) dX3_crossingCount_2 (by decide) rfl ?_
  refine zw_istore_n dX3_crossingCount_3 rfl (by decide) rfl rfl ?_
  exact zw.sub [2, 1, 0] rfl K

set_option maxRecDepth 100000 in
set_option maxHeartbeats 4000000 in
theorem rX3_crossingCount_4 {q : Int32 → zw_H → Prop} {h : zw_H} {o la ma : Nat} {v1 v2 : Int32} (ho : zSH[o]? = some (.inl (3, [some (some la), some (some ma), none, none]))) (hla : zSH[la]? = some (.inr (0, 6, fun _ => none))) (hma : zSH[ma]? = some (.inr (0, 6, fun _ => none))) (K : (((h.1 o 3) ≤ v2 → q v1 h) ∧ (¬ (h.1 o 3) ≤ v2 → zwI 1 mX3_crossingCount q 16 [(0, .ref o), (1, .int v1), (2, .int v2), (3, .int (v2 + (1 : Int32)))] [] h))) : zwI 1 mX3_crossingCount q 4 [(0, .ref o), (1, .int v1), (2, .int v2)] [] h := by
  refine zw_iload_n 2 dX3_crossingCount_4 rfl rfl rfl ?_
  refine zw_aload_n 0 dX3_crossingCount_5 rfl rfl rfl ?_
  refine zw_getI f_X3_28 dX3_crossingCount_6 ho rfl rfl ?_
  refine zw_icmp_ge (tg := 57) dX3_crossingCount_9 (by decide) rfl (fun c => ?_) (fun c => ?_)
  · have K := K.1 c
    refine zw_iload_n 1 dX3_crossingCount_57 rfl rfl rfl ?_
    exact zw_ireturn (ty := .int) dX3_crossingCount_58 rfl rfl (Nat.le_refl 0) (Nat.le_refl 0) ⟨_, rfl, rfl, K⟩
  · have K := K.2 c
    refine zw_iload_n 2 dX3_crossingCount_12 rfl rfl rfl ?_
    refine zw_iconst (v := (1 : Int32)) dX3_crossingCount_13 (by decide) rfl ?_
    refine zw_iadd dX3_crossingCount_14 rfl ?_
    refine zw_istore_n dX3_crossingCount_15 rfl (by decide) rfl rfl ?_
    exact zw.sub [1, 2, 3, 0] rfl K

set_option maxRecDepth 100000 in
set_option maxHeartbeats 4000000 in
theorem rX3_crossingCount_16 {q : Int32 → zw_H → Prop} {h : zw_H} {o la ma : Nat} {v1 v2 v3 : Int32} (ho : zSH[o]? = some (.inl (3, [some (some la), some (some ma), none, none]))) (hla : zSH[la]? = some (.inr (0, 6, fun _ => none))) (hma : zSH[ma]? = some (.inr (0, 6, fun _ => none))) (K : (((h.1 o 3) ≤ v3 → zwI 1 mX3_crossingCount q 4 [(0, .ref o), (1, .int v1), (2, .int (v2 + (1 : Int32)))] [] h) ∧ (¬ (h.1 o 3) ≤ v3 → (∃ j1 : Nat, v2 = nI j1 ∧ j1 < 6 ∧ (∃ j2 : Nat, v3 = nI j2 ∧ j2 < 6 ∧ (∃ q3 : Int32 → zw_H → Prop, zcI 0 mX3_areCrossing [.int (h.1 ma j1), .int (h.1 ma j2)] h q3 ∧ (∀ (x3 : Int32) (h3 : zw_H), q3 x3 h3 → ((x3 = 0 → zwI 1 mX3_crossingCount q 16 [(0, .ref o), (1, .int v1), (2, .int v2), (3, .int (v3 + (1 : Int32)))] [] h3) ∧ (¬ x3 = 0 → zwI 1 mX3_crossingCount q 16 [(0, .ref o), (1, .int (v1 + (1 : Int32))), (2, .int v2), (3, .int (v3 + (1 : Int32)))] [] h3))))))))) : zwI 1 mX3_crossingCount q 16 [(0, .ref o), (1, .int v1), (2, .int v2), (3, .int v3)] [] h := by
  refine zw_iload_n 3 dX3_crossingCount_16 rfl rfl rfl ?_
  refine zw_aload_n 0 dX3_crossingCount_17 rfl rfl rfl ?_
  refine zw_getI f_X3_28 dX3_crossingCount_18 ho rfl rfl ?_
  refine zw_icmp_ge (tg := 51) dX3_crossingCount_21 (by decide) rfl (fun c => ?_) (fun c => ?_)
  · have K := K.1 c
    refine zw_iinc (v := (v2 + (1 : Int32))) 2 dX3_crossingCount_51 rfl rfl (by decide) rfl rfl ?_
    refine zw_goto (np := 4) dX3_crossingCount_54 (by decide) ?_
    exact zw.sub [1, 2, 0] rfl K
  · have K := K.2 c
    refine zw_aload_n 0 dX3_crossingCount_24 rfl rfl rfl ?_
    refine zw_getR f_X3_15 dX3_crossingCount_25 ho rfl rfl ?_
    refine zw_iload_n 2 dX3_crossingCount_28 rfl rfl rfl ?_
    obtain ⟨j1, hj1, hn1, K⟩ := K
    refine zw_iald j1 dX3_crossingCount_29 hma ⟨hj1, hn1⟩ (by decide) rfl ?_
    refine zw_aload_n 0 dX3_crossingCount_30 rfl rfl rfl ?_
    refine zw_getR f_X3_15 dX3_crossingCount_31 ho rfl rfl ?_
    refine zw_iload_n 3 dX3_crossingCount_34 rfl rfl rfl ?_
    obtain ⟨j2, hj2, hn2, K⟩ := K
    refine zw_iald j2 dX3_crossingCount_35 hma ⟨hj2, hn2⟩ (by decide) rfl ?_
    obtain ⟨q3, ct, K⟩ := K
    refine zw_callS (n := 2) (As := [.int (h.1 ma j1), .int (h.1 ma j2)]) (rest := []) ct my_X3_areCrossing rfl rfl k_X3_43 t_X3_areCrossing dX3_crossingCount_36 (by decide) (Nat.le_of_ble_eq_true rfl) (Nat.le_refl 0) (Nat.le_refl 0) rfl (fun r s1 h3 hq => ?_)
    obtain ⟨x3, rfl, rfl, hq⟩ := hq
    have K := K x3 h3 hq
    refine zw.st (st' := [.int x3]) rfl ?_
    refine zw_if_eq (tg := 45) dX3_crossingCount_39 (by decide) rfl (fun c => ?_) (fun c => ?_)
    · have K := K.1 c
      refine zw_iinc (v := (v3 + (1 : Int32))) 3 dX3_crossingCount_45 rfl rfl (by decide) rfl rfl ?_
      refine zw_goto (np := 16) dX3_crossingCount_48 (by decide) ?_
      exact zw.sub [1, 2, 3, 0] rfl K
    · have K := K.2 c
      refine zw_iinc (v := (v1 + (1 : Int32))) 1 dX3_crossingCount_42 rfl rfl (by decide) rfl rfl ?_
      refine zw_iinc (v := (v3 + (1 : Int32))) 3 dX3_crossingCount_45 rfl rfl (by decide) rfl rfl ?_
      refine zw_goto (np := 16) dX3_crossingCount_48 (by decide) ?_
      exact zw.sub [2, 1, 3, 0] rfl K

set_option maxRecDepth 100000 in
set_option maxHeartbeats 4000000 in
theorem rX3_firstCrossing_0 {q : Int32 → zw_H → Prop} {h : zw_H} {o la ma : Nat} (ho : zSH[o]? = some (.inl (3, [some (some la), some (some ma), none, none]))) (hla : zSH[la]? = some (.inr (0, 6, fun _ => none))) (hma : zSH[ma]? = some (.inr (0, 6, fun _ => none))) (K : zwI 1 mX3_firstCrossing q 2 [(0, .ref o), (1, .int (0 : Int32))] [] h) : zwI 1 mX3_firstCrossing q 0 [(0, .ref o)] [] h := by
  refine zw_iconst (v := (0 : Int32)) dX3_firstCrossing_0 (by decide) rfl ?_
  refine zw_istore_n dX3_firstCrossing_1 rfl (by decide) rfl rfl ?_
  exact zw.sub [1, 0] rfl K

set_option maxRecDepth 100000 in
set_option maxHeartbeats 4000000 in
theorem rX3_firstCrossing_2 {q : Int32 → zw_H → Prop} {h : zw_H} {o la ma : Nat} {v1 : Int32} (ho : zSH[o]? = some (.inl (3, [some (some la), some (some ma), none, none]))) (hla : zSH[la]? = some (.inr (0, 6, fun _ => none))) (hma : zSH[ma]? = some (.inr (0, 6, fun _ => none))) (K : (((h.1 o 3) ≤ v1 → q (-9 : Int32) h) ∧ (¬ (h.1 o 3) ≤ v1 → zwI 1 mX3_firstCrossing q 14 [(0, .ref o), (1, .int v1), (2, .int (v1 + (1 : Int32)))] [] h))) : zwI 1 mX3_firstCrossing q 2 [(0, .ref o), (1, .int v1)] [] h := by
  refine zw_iload_n 1 dX3_firstCrossing_2 rfl rfl rfl ?_
  refine zw_aload_n 0 dX3_firstCrossing_3 rfl rfl rfl ?_
  refine zw_getI f_X3_28 dX3_firstCrossing_4 ho rfl rfl ?_
  refine zw_icmp_ge (tg := 59) dX3_firstCrossing_7 (by decide) rfl (fun c => ?_) (fun c => ?_)
  · have K := K.1 c
    refine zw_bipush (v := (-9 : Int32)) dX3_firstCrossing_59 (by decide) rfl ?_
    exact zw_ireturn (ty := .int) dX3_firstCrossing_61 rfl rfl (Nat.le_refl 0) (Nat.le_refl 0) ⟨_, rfl, rfl, K⟩
  · have K := K.2 c
    refine zw_iload_n 1 dX3_firstCrossing_10 rfl rfl rfl ?_
    refine zw_iconst (v := (1 : Int32)) dX3_firstCrossing_11 (by decide) rfl ?_
    refine zw_iadd dX3_firstCrossing_12 rfl ?_
    refine zw_istore_n dX3_firstCrossing_13 rfl (by decide) rfl rfl ?_
    exact zw.sub [1, 2, 0] rfl K

set_option maxRecDepth 100000 in
set_option maxHeartbeats 4000000 in
theorem rX3_firstCrossing_14 {q : Int32 → zw_H → Prop} {h : zw_H} {o la ma : Nat} {v1 v2 : Int32} (ho : zSH[o]? = some (.inl (3, [some (some la), some (some ma), none, none]))) (hla : zSH[la]? = some (.inr (0, 6, fun _ => none))) (hma : zSH[ma]? = some (.inr (0, 6, fun _ => none))) (K : (((h.1 o 3) ≤ v2 → zwI 1 mX3_firstCrossing q 2 [(0, .ref o), (1, .int (v1 + (1 : Int32)))] [] h) ∧ (¬ (h.1 o 3) ≤ v2 → (∃ j1 : Nat, v1 = nI j1 ∧ j1 < 6 ∧ (∃ j2 : Nat, v2 = nI j2 ∧ j2 < 6 ∧ (∃ q3 : Int32 → zw_H → Prop, zcI 0 mX3_areCrossing [.int (h.1 ma j1), .int (h.1 ma j2)] h q3 ∧ (∀ (x3 : Int32) (h3 : zw_H), q3 x3 h3 → ((x3 = 0 → zwI 1 mX3_firstCrossing q 14 [(0, .ref o), (1, .int v1), (2, .int (v2 + (1 : Int32)))] [] h3) ∧ (¬ x3 = 0 → q (((10 : Int32) * v1) + v2) h3))))))))) : zwI 1 mX3_firstCrossing q 14 [(0, .ref o), (1, .int v1), (2, .int v2)] [] h := by
  refine zw_iload_n 2 dX3_firstCrossing_14 rfl rfl rfl ?_
  refine zw_aload_n 0 dX3_firstCrossing_15 rfl rfl rfl ?_
  refine zw_getI f_X3_28 dX3_firstCrossing_16 ho rfl rfl ?_
  refine zw_icmp_ge (tg := 53) dX3_firstCrossing_19 (by decide) rfl (fun c => ?_) (fun c => ?_)
  · have K := K.1 c
    refine zw_iinc (v := (v1 + (1 : Int32))) 1 dX3_firstCrossing_53 rfl rfl (by decide) rfl rfl ?_
    refine zw_goto (np := 2) dX3_firstCrossing_56 (by decide) ?_
    exact zw.sub [1, 0] rfl K
  · have K := K.2 c
    refine zw_aload_n 0 dX3_firstCrossing_22 rfl rfl rfl ?_
    refine zw_getR f_X3_15 dX3_firstCrossing_23 ho rfl rfl ?_
    refine zw_iload_n 1 dX3_firstCrossing_26 rfl rfl rfl ?_
    obtain ⟨j1, hj1, hn1, K⟩ := K
    refine zw_iald j1 dX3_firstCrossing_27 hma ⟨hj1, hn1⟩ (by decide) rfl ?_
    refine zw_aload_n 0 dX3_firstCrossing_28 rfl rfl rfl ?_
    refine zw_getR f_X3_15 dX3_firstCrossing_29 ho rfl rfl ?_
    refine zw_iload_n 2 dX3_firstCrossing_32 rfl rfl rfl ?_
    obtain ⟨j2, hj2, hn2, K⟩ := K
    refine zw_iald j2 dX3_firstCrossing_33 hma ⟨hj2, hn2⟩ (by decide) rfl ?_
    obtain ⟨q3, ct, K⟩ := K
    refine zw_callS (n := 2) (As := [.int (h.1 ma j1), .int (h.1 ma j2)]) (rest := []) ct my_X3_areCrossing rfl rfl k_X3_43 t_X3_areCrossing dX3_firstCrossing_34 (by decide) (Nat.le_of_ble_eq_true rfl) (Nat.le_refl 0) (Nat.le_refl 0) rfl (fun r s1 h3 hq => ?_)
    obtain ⟨x3, rfl, rfl, hq⟩ := hq
    have K := K x3 h3 hq
    refine zw.st (st' := [.int x3]) rfl ?_
    refine zw_if_eq (tg := 47) dX3_firstCrossing_37 (by decide) rfl (fun c => ?_) (fun c => ?_)
    · have K := K.1 c
      refine zw_iinc (v := (v2 + (1 : Int32))) 2 dX3_firstCrossing_47 rfl rfl (by decide) rfl rfl ?_
      refine zw_goto (np := 14) dX3_firstCrossing_50 (by decide) ?_
      exact zw.sub [1, 2, 0] rfl K
    · have K := K.2 c
      refine zw_bipush (v := (10 : Int32)) dX3_firstCrossing_40 (by decide) rfl ?_
      refine zw_iload_n 1 dX3_firstCrossing_42 rfl rfl rfl ?_
      refine zw_imul dX3_firstCrossing_43 rfl ?_
      refine zw_iload_n 2 dX3_firstCrossing_44 rfl rfl rfl ?_
      refine zw_iadd dX3_firstCrossing_45 rfl ?_
      exact zw_ireturn (ty := .int) dX3_firstCrossing_46 rfl rfl (Nat.le_refl 0) (Nat.le_refl 0) ⟨_, rfl, rfl, K⟩

set_option maxRecDepth 100000 in
set_option maxHeartbeats 4000000 in
theorem rX3_areCrossing_0 {q : Int32 → zw_H → Prop} {h : zw_H} {v0 v1 : Int32} (K : zwI 0 mX3_areCrossing q 7 [(0, .int v0), (1, .int v1), (2, .int (0 : Int32)), (3, .int (0 : Int32)), (4, .int (0 : Int32))] [] h) : zwI 0 mX3_areCrossing q 0 [(0, .int v0), (1, .int v1)] [] h := by
  refine zw_iconst (v := (0 : Int32)) dX3_areCrossing_0 (by decide) rfl ?_
  refine zw_istore_n dX3_areCrossing_1 rfl (by decide) rfl rfl ?_
  refine zw_iconst (v := (0 : Int32)) dX3_areCrossing_2 (by decide) rfl ?_
  refine zw_istore_n dX3_areCrossing_3 rfl (by decide) rfl rfl ?_
  refine zw_iconst (v := (0 : Int32)) dX3_areCrossing_4 (by decide) rfl ?_
  refine zw_istore dX3_areCrossing_5 (by decide) rfl rfl ?_
  exact zw.sub [3, 4, 2, 1, 0] rfl K

set_option maxRecDepth 100000 in
set_option maxHeartbeats 4000000 in
theorem rX3_areCrossing_7 {q : Int32 → zw_H → Prop} {h : zw_H} {v0 v1 v2 v3 v4 : Int32} (K : (((6 : Int32) ≤ v4 → ((v2 < (4 : Int32) → q (0 : Int32) h) ∧ (¬ v2 < (4 : Int32) → q (1 : Int32) h))) ∧ (¬ (6 : Int32) ≤ v4 → ((((v0 >>> (v4 &&& 31)) &&& (1 : Int32)) = 0 → ((((v1 >>> (v4 &&& 31)) &&& (1 : Int32)) = 0 → ((v3 = v3 → zwI 0 mX3_areCrossing q 7 [(0, .int v0), (1, .int v1), (2, .int v2), (3, .int v3), (4, .int (v4 + (1 : Int32)))] [] h) ∧ (¬ v3 = v3 → zwI 0 mX3_areCrossing q 7 [(0, .int v0), (1, .int v1), (2, .int (v2 + (1 : Int32))), (3, .int v3), (4, .int (v4 + (1 : Int32)))] [] h))) ∧ (¬ ((v1 >>> (v4 &&& 31)) &&& (1 : Int32)) = 0 → (((2 : Int32) = v3 → zwI 0 mX3_areCrossing q 7 [(0, .int v0), (1, .int v1), (2, .int v2), (3, .int v3), (4, .int (v4 + (1 : Int32)))] [] h) ∧ (¬ (2 : Int32) = v3 → zwI 0 mX3_areCrossing q 7 [(0, .int v0), (1, .int v1), (2, .int (v2 + (1 : Int32))), (3, .int (2 : Int32)), (4, .int (v4 + (1 : Int32)))] [] h))))) ∧ (¬ ((v0 >>> (v4 &&& 31)) &&& (1 : Int32)) = 0 → (((1 : Int32) = v3 → zwI 0 mX3_areCrossing q 7 [(0, .int v0), (1, .int v1), (2, .int v2), (3, .int v3), (4, .int (v4 + (1 : Int32)))] [] h) ∧ (¬ (1 : Int32) = v3 → zwI 0 mX3_areCrossing q 7 [(0, .int v0), (1, .int v1), (2, .int (v2 + (1 : Int32))), (3, .int (1 : Int32)), (4, .int (v4 + (1 : Int32)))] [] h))))))) : zwI 0 mX3_areCrossing q 7 [(0, .int v0), (1, .int v1), (2, .int v2), (3, .int v3), (4, .int v4)] [] h := by
  refine zw_iload 4 dX3_areCrossing_7 rfl rfl ?_
  refine zw_bipush (v := (6 : Int32)) dX3_areCrossing_9 (by decide) rfl ?_
  refine zw_icmp_ge (tg := 61) dX3_areCrossing_11 (by decide) rfl (fun c => ?_) (fun c => ?_)
  · have K := K.1 c
    refine zw_iload_n 2 dX3_areCrossing_61 rfl rfl rfl ?_
    refine zw_iconst (v := (4 : Int32)) dX3_areCrossing_62 (by decide) rfl ?_
    refine zw_icmp_lt (tg := 70) dX3_areCrossing_63 (by decide) rfl (fun c => ?_) (fun c => ?_)
    · have K := K.1 c
      refine zw_iconst (v := (0 : Int32)) dX3_areCrossing_70 (by decide) rfl ?_
      exact zw_ireturn (ty := .boolean) dX3_areCrossing_71 rfl rfl (Nat.le_refl 0) (Nat.le_refl 0) ⟨_, rfl, rfl, K⟩
    · have K := K.2 c
      refine zw_iconst (v := (1 : Int32)) dX3_areCrossing_66 (by decide) rfl ?_
      refine zw_goto (np := 71) dX3_areCrossing_67 (by decide) ?_
      exact zw_ireturn (ty := .boolean) dX3_areCrossing_71 rfl rfl (Nat.le_refl 0) (Nat.le_refl 0) ⟨_, rfl, rfl, K⟩
  · have K := K.2 c
    refine zw_iload_n 0 dX3_areCrossing_14 rfl rfl rfl ?_
    refine zw_iload 4 dX3_areCrossing_15 rfl rfl ?_
    refine zw_ishr dX3_areCrossing_17 rfl ?_
    refine zw_iconst (v := (1 : Int32)) dX3_areCrossing_18 (by decide) rfl ?_
    refine zw_iand dX3_areCrossing_19 rfl ?_
    refine zw_if_eq (tg := 27) dX3_areCrossing_20 (by decide) rfl (fun c => ?_) (fun c => ?_)
    · have K := K.1 c
      refine zw_iload_n 1 dX3_areCrossing_27 rfl rfl rfl ?_
      refine zw_iload 4 dX3_areCrossing_28 rfl rfl ?_
      refine zw_ishr dX3_areCrossing_30 rfl ?_
      refine zw_iconst (v := (1 : Int32)) dX3_areCrossing_31 (by decide) rfl ?_
      refine zw_iand dX3_areCrossing_32 rfl ?_
      refine zw_if_eq (tg := 40) dX3_areCrossing_33 (by decide) rfl (fun c => ?_) (fun c => ?_)
      · have K := K.1 c
        refine zw_iload_n 3 dX3_areCrossing_40 rfl rfl rfl ?_
        refine zw_istore dX3_areCrossing_41 (by decide) rfl rfl ?_
        refine zw_iload 0 dX3_areCrossing_43 rfl rfl ?_
        refine zw_iload_n 4 dX3_areCrossing_45 rfl rfl rfl ?_
        refine zw_icmp_eq (tg := 55) dX3_areCrossing_46 (by decide) rfl (fun c => ?_) (fun c => ?_)
        · have K := K.1 c
          refine zw_iinc (v := (v4 + (1 : Int32))) 5 dX3_areCrossing_55 rfl rfl (by decide) rfl rfl ?_
          refine zw_goto (np := 7) dX3_areCrossing_58 (by decide) ?_
          exact zw.sub [2, 3, 4, 5, 0] rfl K
        · have K := K.2 c
          refine zw_iload 0 dX3_areCrossing_49 rfl rfl ?_
          refine zw_istore_n dX3_areCrossing_51 rfl (by decide) rfl rfl ?_
          refine zw_iinc (v := (v2 + (1 : Int32))) 4 dX3_areCrossing_52 rfl rfl (by decide) rfl rfl ?_
          refine zw_iinc (v := (v4 + (1 : Int32))) 5 dX3_areCrossing_55 rfl rfl (by decide) rfl rfl ?_
          refine zw_goto (np := 7) dX3_areCrossing_58 (by decide) ?_
          exact zw.sub [4, 5, 1, 2, 0] rfl K
      · have K := K.2 c
        refine zw_iconst (v := (2 : Int32)) dX3_areCrossing_36 (by decide) rfl ?_
        refine zw_goto (np := 41) dX3_areCrossing_37 (by decide) ?_
        refine zw_istore dX3_areCrossing_41 (by decide) rfl rfl ?_
        refine zw_iload 0 dX3_areCrossing_43 rfl rfl ?_
        refine zw_iload_n 4 dX3_areCrossing_45 rfl rfl rfl ?_
        refine zw_icmp_eq (tg := 55) dX3_areCrossing_46 (by decide) rfl (fun c => ?_) (fun c => ?_)
        · have K := K.1 c
          refine zw_iinc (v := (v4 + (1 : Int32))) 5 dX3_areCrossing_55 rfl rfl (by decide) rfl rfl ?_
          refine zw_goto (np := 7) dX3_areCrossing_58 (by decide) ?_
          exact zw.sub [2, 3, 4, 5, 0] rfl K
        · have K := K.2 c
          refine zw_iload 0 dX3_areCrossing_49 rfl rfl ?_
          refine zw_istore_n dX3_areCrossing_51 rfl (by decide) rfl rfl ?_
          refine zw_iinc (v := (v2 + (1 : Int32))) 4 dX3_areCrossing_52 rfl rfl (by decide) rfl rfl ?_
          refine zw_iinc (v := (v4 + (1 : Int32))) 5 dX3_areCrossing_55 rfl rfl (by decide) rfl rfl ?_
          refine zw_goto (np := 7) dX3_areCrossing_58 (by decide) ?_
          exact zw.sub [4, 5, 1, 2, 0] rfl K
    · have K := K.2 c
      refine zw_iconst (v := (1 : Int32)) dX3_areCrossing_23 (by decide) rfl ?_
      refine zw_goto (np := 41) dX3_areCrossing_24 (by decide) ?_
      refine zw_istore dX3_areCrossing_41 (by decide) rfl rfl ?_
      refine zw_iload 0 dX3_areCrossing_43 rfl rfl ?_
      refine zw_iload_n 4 dX3_areCrossing_45 rfl rfl rfl ?_
      refine zw_icmp_eq (tg := 55) dX3_areCrossing_46 (by decide) rfl (fun c => ?_) (fun c => ?_)
      · have K := K.1 c
        refine zw_iinc (v := (v4 + (1 : Int32))) 5 dX3_areCrossing_55 rfl rfl (by decide) rfl rfl ?_
        refine zw_goto (np := 7) dX3_areCrossing_58 (by decide) ?_
        exact zw.sub [2, 3, 4, 5, 0] rfl K
      · have K := K.2 c
        refine zw_iload 0 dX3_areCrossing_49 rfl rfl ?_
        refine zw_istore_n dX3_areCrossing_51 rfl (by decide) rfl rfl ?_
        refine zw_iinc (v := (v2 + (1 : Int32))) 4 dX3_areCrossing_52 rfl rfl (by decide) rfl rfl ?_
        refine zw_iinc (v := (v4 + (1 : Int32))) 5 dX3_areCrossing_55 rfl rfl (by decide) rfl rfl ?_
        refine zw_goto (np := 7) dX3_areCrossing_58 (by decide) ?_
        exact zw.sub [4, 5, 1, 2, 0] rfl K

set_option maxRecDepth 100000 in
set_option maxHeartbeats 4000000 in
theorem rX4_select_0 {q : zw_H → Prop} {h : zw_H} {v2 v3 : Int32} (K : (∀ h1 : zw_H, h1 = zw_sI h 43 4 (0 : Int32) → zwV 1 mX4_select q 13 [(0, .ref 43), (1, .ref 37), (2, .int v2), (3, .int v3), (4, .int ((h1.1 37 5) - (1 : Int32)))] [] h1)) : zwV 1 mX4_select q 0 [(0, .ref 43), (1, .ref 37), (2, .int v2), (3, .int v3)] [] h := by
  refine zw_aload_n 0 dX4_select_0 rfl rfl rfl ?_
  refine zw_iconst (v := (0 : Int32)) dX4_select_1 (by decide) rfl ?_
  refine zw_putI f_X4_25 cl_X4 rfl ⟨rfl, rfl⟩ dX4_select_2 zs_43 rfl rfl ?_
  generalize e1 : zw_sI h 43 4 (0 : Int32) = h1
  have K := K h1 e1.symm
  refine zw_aload_n 1 dX4_select_5 rfl rfl rfl ?_
  refine zw_getI f_X4_29 dX4_select_6 zs_37 rfl rfl ?_
  refine zw_iconst (v := (1 : Int32)) dX4_select_9 (by decide) rfl ?_
  refine zw_isub dX4_select_10 rfl ?_
  refine zw_istore dX4_select_11 (by decide) rfl rfl ?_
  exact zw.sub [1, 2, 3, 4, 0] rfl K

set_option maxRecDepth 100000 in
set_option maxHeartbeats 4000000 in
theorem rX4_select_13 {q : zw_H → Prop} {h : zw_H} {v2 v3 v4 : Int32} (K : ((v4 < 0 → q h) ∧ (¬ v4 < 0 → (∃ j1 : Nat, v4 = nI j1 ∧ j1 < 203 ∧ (∃ q2 : Int32 → zw_H → Prop, zcI 0 mX7_isBelow [.int v2, .int (h.1 38 j1)] h q2 ∧ (∀ (x2 : Int32) (h2 : zw_H), q2 x2 h2 → ((x2 = 0 → zwV 1 mX4_select q 13 [(0, .ref 43), (1, .ref 37), (2, .int v2), (3, .int v3), (4, .int (v4 + (-1 : Int32)))] [] h2) ∧ (¬ x2 = 0 → (∃ q3 : Int32 → zw_H → Prop, zcI 0 mX7_isBelow [.int (h.1 38 j1), .int v3] h2 q3 ∧ (∀ (x3 : Int32) (h3 : zw_H), q3 x3 h3 → ((x3 = 0 → zwV 1 mX4_select q 13 [(0, .ref 43), (1, .ref 37), (2, .int v2), (3, .int v3), (4, .int (v4 + (-1 : Int32)))] [] h3) ∧ (¬ x3 = 0 → (∃ j4 : Nat, (h3.1 43 4) = nI j4 ∧ j4 < 203 ∧ ∀ h5 : zw_H, h5 = zw_sI h3 44 j4 (h.1 38 j1) → (∃ j6 : Nat, v4 = nI j6 ∧ j6 < 203 ∧ (∃ j7 : Nat, (h5.1 43 4) = nI j7 ∧ j7 < 203 ∧ ∀ h8 : zw_H, h8 = zw_sI h5 45 j7 (h5.1 40 j6) → (∀ h9 : zw_H, h9 = zw_sI h8 43 4 ((h8.1 43 4) + (1 : Int32)) → zwV 1 mX4_select q 13 [(0, .ref 43), (1, .ref 37), (2, .int v2), (3, .int v3), (4, .int (v4 + (-1 : Int32)))] [] h9)))))))))))))))) : zwV 1 mX4_select q 13 [(0, .ref 43), (1, .ref 37), (2, .int v2), (3, .int v3), (4, .int v4)] [] h := by
  refine zw_iload 4 dX4_select_13 rfl rfl ?_
  refine zw_if_lt (tg := 88) dX4_select_15 (by decide) rfl (fun c => ?_) (fun c => ?_)
  · have K := K.1 c
    exact zw_return dX4_select_88 rfl (Nat.le_refl 0) (Nat.le_refl 0) ⟨rfl, rfl, K⟩
  · have K := K.2 c
    refine zw_aload_n 1 dX4_select_18 rfl rfl rfl ?_
    refine zw_getR f_X4_32 dX4_select_19 zs_37 rfl rfl ?_
    refine zw_iload 4 dX4_select_22 rfl rfl ?_
    obtain ⟨j1, hj1, hn1, K⟩ := K
    refine zw_iald j1 dX4_select_24 zs_38 ⟨hj1, hn1⟩ (by decide) rfl ?_
    refine zw_istore dX4_select_25 (by decide) rfl rfl ?_
    refine zw_iload_n 3 dX4_select_27 rfl rfl rfl ?_
    refine zw_iload 0 dX4_select_28 rfl rfl ?_
    obtain ⟨q2, ct, K⟩ := K
    refine zw_callSN (n := 2) (As := [.int v2, .int (h.1 38 j1)]) (rest := []) ct my_X7_isBelow rfl rfl k_X4_33 t_X7_isBelow dX4_select_30 (by decide) (Nat.le_of_ble_eq_true rfl) (Nat.le_refl 0) (Nat.le_refl 0) rfl (fun r s1 h2 hq => ?_)
    obtain ⟨x2, rfl, rfl, hq⟩ := hq
    have K := K x2 h2 hq
    refine zw.st (st' := [.int x2]) rfl ?_
    refine zw_if_eq (tg := 82) dX4_select_33 (by decide) rfl (fun c => ?_) (fun c => ?_)
    · have K := K.1 c
      refine zw_iinc (v := (v4 + (-1 : Int32))) 5 dX4_select_82 rfl rfl (by decide) rfl rfl ?_
      refine zw_goto (np := 13) dX4_select_85 (by decide) ?_
      exact zw.sub [2, 3, 4, 5, 0] rfl K
    · have K := K.2 c
      refine zw_iload 0 dX4_select_36 rfl rfl ?_
      refine zw_iload_n 4 dX4_select_38 rfl rfl rfl ?_
      obtain ⟨q3, ct, K⟩ := K
      refine zw_callSN (n := 2) (As := [.int (h.1 38 j1), .int v3]) (rest := []) ct my_X7_isBelow rfl rfl k_X4_33 t_X7_isBelow dX4_select_39 (by decide) (Nat.le_of_ble_eq_true rfl) (Nat.le_refl 0) (Nat.le_refl 0) rfl (fun r s1 h3 hq => ?_)
      obtain ⟨x3, rfl, rfl, hq⟩ := hq
      have K := K x3 h3 hq
      refine zw.st (st' := [.int x3]) rfl ?_
      refine zw_if_eq (tg := 82) dX4_select_42 (by decide) rfl (fun c => ?_) (fun c => ?_)
      · have K := K.1 c
        refine zw_iinc (v := (v4 + (-1 : Int32))) 5 dX4_select_82 rfl rfl (by decide) rfl rfl ?_
        refine zw_goto (np := 13) dX4_select_85 (by decide) ?_
        exact zw.sub [2, 3, 4, 5, 0] rfl K
      · have K := K.2 c
        refine zw_aload_n 1 dX4_select_45 rfl rfl rfl ?_
        refine zw_getR f_X4_9 dX4_select_46 zs_43 rfl rfl ?_
        refine zw_aload_n 1 dX4_select_49 rfl rfl rfl ?_
        refine zw_getI f_X4_25 dX4_select_50 zs_43 rfl rfl ?_
        refine zw_iload 0 dX4_select_53 rfl rfl ?_
        obtain ⟨j4, hj4, hn4, K⟩ := K
        refine zw_iast j4 dX4_select_55 zs_44 ⟨hj4, hn4⟩ (by decide) rfl ?_
        generalize e5 : zw_sI h3 44 j4 (h.1 38 j1) = h5
        have K := K h5 e5.symm
        refine zw_aload_n 1 dX4_select_56 rfl rfl rfl ?_
        refine zw_getR f_X4_15 dX4_select_57 zs_43 rfl rfl ?_
        refine zw_aload_n 1 dX4_select_60 rfl rfl rfl ?_
        refine zw_getI f_X4_25 dX4_select_61 zs_43 rfl rfl ?_
        refine zw_aload_n 2 dX4_select_64 rfl rfl rfl ?_
        refine zw_getR f_X4_37 dX4_select_65 zs_37 rfl rfl ?_
        refine zw_iload 5 dX4_select_68 rfl rfl ?_
        obtain ⟨j6, hj6, hn6, K⟩ := K
        refine zw_iald j6 dX4_select_70 zs_40 ⟨hj6, hn6⟩ (by decide) rfl ?_
        obtain ⟨j7, hj7, hn7, K⟩ := K
        refine zw_iast j7 dX4_select_71 zs_45 ⟨hj7, hn7⟩ (by decide) rfl ?_
        generalize e8 : zw_sI h5 45 j7 (h5.1 40 j6) = h8
        have K := K h8 e8.symm
        refine zw_aload_n 1 dX4_select_72 rfl rfl rfl ?_
        refine zw_dup dX4_select_73 rfl rfl ?_
        refine zw_getI f_X4_25 dX4_select_74 zs_43 rfl rfl ?_
        refine zw_iconst (v := (1 : Int32)) dX4_select_77 (by decide) rfl ?_
        refine zw_iadd dX4_select_78 rfl ?_
        refine zw_putI f_X4_25 cl_X4 rfl ⟨rfl, rfl⟩ dX4_select_79 zs_43 rfl rfl ?_
        generalize e9 : zw_sI h8 43 4 ((h8.1 43 4) + (1 : Int32)) = h9
        have K := K h9 e9.symm
        refine zw_iinc (v := (v4 + (-1 : Int32))) 5 dX4_select_82 rfl rfl (by decide) rfl rfl ?_
        refine zw_goto (np := 13) dX4_select_85 (by decide) ?_
        exact zw.sub [2, 3, 4, 5, 0] rfl K

set_option maxRecDepth 100000 in
set_option maxHeartbeats 4000000 in
theorem rX4_lastValue_0 {q : Int64 → zw_H → Prop} {h : zw_H} (K : ((¬ (h.1 43 4) = 0 → (∃ j1 : Nat, ((h.1 43 4) - (1 : Int32)) = nI j1 ∧ j1 < 203 ∧ q (h.2 46 j1) h)) ∧ ((h.1 43 4) = 0 → q (0 : Int64) h))) : zwL 0 mX4_lastValue q 0 [(0, .ref 43)] [] h := by
  refine zw_aload_n 0 dX4_lastValue_0 rfl rfl rfl ?_
  refine zw_getI f_X4_25 dX4_lastValue_1 zs_43 rfl rfl ?_
  refine zw_if_ne (tg := 11) dX4_lastValue_4 (by decide) rfl (fun c => ?_) (fun c => ?_)
  · have K := K.1 c
    refine zw_aload_n 0 dX4_lastValue_11 rfl rfl rfl ?_
    refine zw_getR f_X4_18 dX4_lastValue_12 zs_43 rfl rfl ?_
    refine zw_aload_n 0 dX4_lastValue_15 rfl rfl rfl ?_
    refine zw_getI f_X4_25 dX4_lastValue_16 zs_43 rfl rfl ?_
    refine zw_iconst (v := (1 : Int32)) dX4_lastValue_19 (by decide) rfl ?_
    refine zw_isub dX4_lastValue_20 rfl ?_
    obtain ⟨j1, hj1, hn1, K⟩ := K
    refine zw_lald j1 dX4_lastValue_21 zs_46 ⟨hj1, hn1⟩ (by decide) rfl ?_
    exact zw_lreturn dX4_lastValue_22 rfl (Nat.le_refl 0) (Nat.le_refl 0) ⟨_, rfl, rfl, K⟩
  · have K := K.2 c
    refine zw_lconst (v := (0 : Int64)) dX4_lastValue_7 (by decide) rfl ?_
    refine zw_goto (np := 22) dX4_lastValue_8 (by decide) ?_
    exact zw_lreturn dX4_lastValue_22 rfl (Nat.le_refl 0) (Nat.le_refl 0) ⟨_, rfl, rfl, K⟩

set_option maxRecDepth 100000 in
set_option maxHeartbeats 4000000 in
theorem rX4_startAtFirst_0 {q : zw_H → Prop} {h : zw_H} (K : zwV 0 mX4_startAtFirst q 2 [(0, .ref 43), (1, .int (0 : Int32))] [] h) : zwV 0 mX4_startAtFirst q 0 [(0, .ref 43)] [] h := by
  refine zw_iconst (v := (0 : Int32)) dX4_startAtFirst_0 (by decide) rfl ?_
  refine zw_istore_n dX4_startAtFirst_1 rfl (by decide) rfl rfl ?_
  exact zw.sub [1, 0] rfl K

set_option maxRecDepth 100000 in
set_option maxHeartbeats 4000000 in
theorem rX4_startAtFirst_2 {q : zw_H → Prop} {h : zw_H} {v1 : Int32} (K : (((h.1 43 4) ≤ v1 → q h) ∧ (¬ (h.1 43 4) ≤ v1 → ((¬ v1 = 0 → (∃ j1 : Nat, v1 = nI j1 ∧ j1 < 203 ∧ ∀ h2 : zw_H, h2 = zw_sL h 46 j1 (0 : Int64) → zwV 0 mX4_startAtFirst q 2 [(0, .ref 43), (1, .int (v1 + (1 : Int32)))] [] h2)) ∧ (v1 = 0 → (∃ j3 : Nat, v1 = nI j3 ∧ j3 < 203 ∧ ∀ h4 : zw_H, h4 = zw_sL h 46 j3 (1 : Int64) → zwV 0 mX4_startAtFirst q 2 [(0, .ref 43), (1, .int (v1 + (1 : Int32)))] [] h4)))))) : zwV 0 mX4_startAtFirst q 2 [(0, .ref 43), (1, .int v1)] [] h := by
  refine zw_iload_n 1 dX4_startAtFirst_2 rfl rfl rfl ?_
  refine zw_aload_n 0 dX4_startAtFirst_3 rfl rfl rfl ?_
  refine zw_getI f_X4_25 dX4_startAtFirst_4 zs_43 rfl rfl ?_
  refine zw_icmp_ge (tg := 31) dX4_startAtFirst_7 (by decide) rfl (fun c => ?_) (fun c => ?_)
  · have K := K.1 c
    exact zw_return dX4_startAtFirst_31 rfl (Nat.le_refl 0) (Nat.le_refl 0) ⟨rfl, rfl, K⟩
  · have K := K.2 c
    refine zw_aload_n 0 dX4_startAtFirst_10 rfl rfl rfl ?_
    refine zw_getR f_X4_18 dX4_startAtFirst_11 zs_43 rfl rfl ?_
    refine zw_iload_n 1 dX4_startAtFirst_14 rfl rfl rfl ?_
    refine zw_iload_n 1 dX4_startAtFirst_15 rfl rfl rfl ?_
    refine zw_if_ne (tg := 23) dX4_startAtFirst_16 (by decide) rfl (fun c => ?_) (fun c => ?_)
    · have K := K.1 c
      refine zw_lconst (v := (0 : Int64)) dX4_startAtFirst_23 (by decide) rfl ?_
      obtain ⟨j1, hj1, hn1, K⟩ := K
      refine zw_last j1 dX4_startAtFirst_24 zs_46 ⟨hj1, hn1⟩ (by decide) rfl ?_
      generalize e2 : zw_sL h 46 j1 (0 : Int64) = h2
      have K := K h2 e2.symm
      refine zw_iinc (v := (v1 + (1 : Int32))) 1 dX4_startAtFirst_25 rfl rfl (by decide) rfl rfl ?_
      refine zw_goto (np := 2) dX4_startAtFirst_28 (by decide) ?_
      exact zw.sub [1, 0] rfl K
    · have K := K.2 c
      refine zw_lconst (v := (1 : Int64)) dX4_startAtFirst_19 (by decide) rfl ?_
      refine zw_goto (np := 24) dX4_startAtFirst_20 (by decide) ?_
      obtain ⟨j3, hj3, hn3, K⟩ := K
      refine zw_last j3 dX4_startAtFirst_24 zs_46 ⟨hj3, hn3⟩ (by decide) rfl ?_
      generalize e4 : zw_sL h 46 j3 (1 : Int64) = h4
      have K := K h4 e4.symm
      refine zw_iinc (v := (v1 + (1 : Int32))) 1 dX4_startAtFirst_25 rfl rfl (by decide) rfl rfl ?_
      refine zw_goto (np := 2) dX4_startAtFirst_28 (by decide) ?_
      exact zw.sub [1, 0] rfl K

set_option maxRecDepth 100000 in
set_option maxHeartbeats 4000000 in
theorem rX4_putMoebius_0 {q : zw_H → Prop} {h : zw_H} (K : (∃ q1 : zw_H → Prop, zcV 0 mX4_startAtFirst [.ref 43] h q1 ∧ (∀ h1 : zw_H, q1 h1 → zwV 2 mX4_putMoebius q 6 [(0, .ref 43), (1, .int (1 : Int32))] [] h1))) : zwV 2 mX4_putMoebius q 0 [(0, .ref 43)] [] h := by
  refine zw_aload_n 0 dX4_putMoebius_0 rfl rfl rfl ?_
  obtain ⟨q1, ct, K⟩ := K
  refine zw_callV (n := 0) (As := []) (rest := []) ct my_X4_startAtFirst rfl rfl k_X4_38 i_X4_startAtFirst s_X4_startAtFirst zs_43 rfl dX4_putMoebius_1 (by decide) (Nat.le_of_ble_eq_true rfl) (Nat.le_refl 0) (Nat.le_refl 0) rfl (fun r s1 h1 hq => ?_)
  obtain ⟨rfl, rfl, hq⟩ := hq
  have K := K h1 hq
  refine zw.st (st' := []) rfl ?_
  refine zw_iconst (v := (1 : Int32)) dX4_putMoebius_4 (by decide) rfl ?_
  refine zw_istore_n dX4_putMoebius_5 rfl (by decide) rfl rfl ?_
  exact zw.sub [1, 0] rfl K

set_option maxRecDepth 100000 in
set_option maxHeartbeats 4000000 in
theorem rX4_putMoebius_6 {q : zw_H → Prop} {h : zw_H} {v1 : Int32} (K : (((h.1 43 4) ≤ v1 → q h) ∧ (¬ (h.1 43 4) ≤ v1 → (∃ q1 : Int64 → zw_H → Prop, zcL 1 mX4_sumStrictlyBelow [.ref 43, .int v1] h q1 ∧ (∀ (x1 : Int64) (h1 : zw_H), q1 x1 h1 → (∃ j2 : Nat, v1 = nI j2 ∧ j2 < 203 ∧ ∀ h3 : zw_H, h3 = zw_sL h1 46 j2 (-x1) → zwV 2 mX4_putMoebius q 6 [(0, .ref 43), (1, .int (v1 + (1 : Int32)))] [] h3)))))) : zwV 2 mX4_putMoebius q 6 [(0, .ref 43), (1, .int v1)] [] h := by
  refine zw_iload_n 1 dX4_putMoebius_6 rfl rfl rfl ?_
  refine zw_aload_n 0 dX4_putMoebius_7 rfl rfl rfl ?_
  refine zw_getI f_X4_25 dX4_putMoebius_8 zs_43 rfl rfl ?_
  refine zw_icmp_ge (tg := 32) dX4_putMoebius_11 (by decide) rfl (fun c => ?_) (fun c => ?_)
  · have K := K.1 c
    exact zw_return dX4_putMoebius_32 rfl (Nat.le_refl 0) (Nat.le_refl 0) ⟨rfl, rfl, K⟩
  · have K := K.2 c
    refine zw_aload_n 0 dX4_putMoebius_14 rfl rfl rfl ?_
    refine zw_getR f_X4_18 dX4_putMoebius_15 zs_43 rfl rfl ?_
    refine zw_iload_n 1 dX4_putMoebius_18 rfl rfl rfl ?_
    refine zw_aload_n 0 dX4_putMoebius_19 rfl rfl rfl ?_
    refine zw_iload_n 1 dX4_putMoebius_20 rfl rfl rfl ?_
    obtain ⟨q1, ct, K⟩ := K
    refine zw_callV (n := 1) (As := [.int v1]) (rest := [.int v1, .ref 46]) ct my_X4_sumStrictlyBelow rfl rfl k_X4_41 i_X4_sumStrictlyBelow s_X4_sumStrictlyBelow zs_43 rfl dX4_putMoebius_21 (by decide) (Nat.le_of_ble_eq_true rfl) (Nat.le_refl 0) (Nat.le_refl 0) rfl (fun r s1 h1 hq => ?_)
    obtain ⟨x1, rfl, rfl, hq⟩ := hq
    have K := K x1 h1 hq
    refine zw.st (st' := [.long x1, .int v1, .ref 46]) rfl ?_
    refine zw_lneg dX4_putMoebius_24 rfl ?_
    obtain ⟨j2, hj2, hn2, K⟩ := K
    refine zw_last j2 dX4_putMoebius_25 zs_46 ⟨hj2, hn2⟩ (by decide) rfl ?_
    generalize e3 : zw_sL h1 46 j2 (-x1) = h3
    have K := K h3 e3.symm
    refine zw_iinc (v := (v1 + (1 : Int32))) 1 dX4_putMoebius_26 rfl rfl (by decide) rfl rfl ?_
    refine zw_goto (np := 6) dX4_putMoebius_29 (by decide) ?_
    exact zw.sub [1, 0] rfl K

set_option maxRecDepth 100000 in
set_option maxHeartbeats 4000000 in
theorem rX4_putChains_0 {q : zw_H → Prop} {h : zw_H} {v1 : Int32} (K : (∃ q1 : zw_H → Prop, zcV 0 mX4_startAtFirst [.ref 43] h q1 ∧ (∀ h1 : zw_H, q1 h1 → zwV 2 mX4_putChains q 6 [(0, .ref 43), (1, .int v1), (2, .int (0 : Int32))] [] h1))) : zwV 2 mX4_putChains q 0 [(0, .ref 43), (1, .int v1)] [] h := by
  refine zw_aload_n 0 dX4_putChains_0 rfl rfl rfl ?_
  obtain ⟨q1, ct, K⟩ := K
  refine zw_callV (n := 0) (As := []) (rest := []) ct my_X4_startAtFirst rfl rfl k_X4_38 i_X4_startAtFirst s_X4_startAtFirst zs_43 rfl dX4_putChains_1 (by decide) (Nat.le_of_ble_eq_true rfl) (Nat.le_refl 0) (Nat.le_refl 0) rfl (fun r s1 h1 hq => ?_)
  obtain ⟨rfl, rfl, hq⟩ := hq
  have K := K h1 hq
  refine zw.st (st' := []) rfl ?_
  refine zw_iconst (v := (0 : Int32)) dX4_putChains_4 (by decide) rfl ?_
  refine zw_istore_n dX4_putChains_5 rfl (by decide) rfl rfl ?_
  exact zw.sub [1, 2, 0] rfl K

set_option maxRecDepth 100000 in
set_option maxHeartbeats 4000000 in
theorem rX4_putChains_6 {q : zw_H → Prop} {h : zw_H} {v1 v2 : Int32} (K : ((v1 ≤ v2 → q h) ∧ (¬ v1 ≤ v2 → zwV 2 mX4_putChains q 18 [(0, .ref 43), (1, .int v1), (2, .int v2), (3, .int ((h.1 43 4) - (1 : Int32)))] [] h))) : zwV 2 mX4_putChains q 6 [(0, .ref 43), (1, .int v1), (2, .int v2)] [] h := by
  refine zw_iload_n 2 dX4_putChains_6 rfl rfl rfl ?_
  refine zw_iload_n 1 dX4_putChains_7 rfl rfl rfl ?_
  refine zw_icmp_ge (tg := 45) dX4_putChains_8 (by decide) rfl (fun c => ?_) (fun c => ?_)
  · have K := K.1 c
    exact zw_return dX4_putChains_45 rfl (Nat.le_refl 0) (Nat.le_refl 0) ⟨rfl, rfl, K⟩
  · have K := K.2 c
    refine zw_aload_n 0 dX4_putChains_11 rfl rfl rfl ?_
    refine zw_getI f_X4_25 dX4_putChains_12 zs_43 rfl rfl ?_
    refine zw_iconst (v := (1 : Int32)) dX4_putChains_15 (by decide) rfl ?_
    refine zw_isub dX4_putChains_16 rfl ?_
    refine zw_istore_n dX4_putChains_17 rfl (by decide) rfl rfl ?_
    exact zw.sub [1, 2, 3, 0] rfl K

set_option maxRecDepth 100000 in
set_option maxHeartbeats 4000000 in
theorem rX4_putChains_18 {q : zw_H → Prop} {h : zw_H} {v1 v2 v3 : Int32} (K : ((v3 < 0 → zwV 2 mX4_putChains q 6 [(0, .ref 43), (1, .int v1), (2, .int (v2 + (1 : Int32)))] [] h) ∧ (¬ v3 < 0 → (∃ q1 : Int64 → zw_H → Prop, zcL 1 mX4_sumStrictlyBelow [.ref 43, .int v3] h q1 ∧ (∀ (x1 : Int64) (h1 : zw_H), q1 x1 h1 → (∃ j2 : Nat, v3 = nI j2 ∧ j2 < 203 ∧ ∀ h3 : zw_H, h3 = zw_sL h1 46 j2 x1 → zwV 2 mX4_putChains q 18 [(0, .ref 43), (1, .int v1), (2, .int v2), (3, .int (v3 + (-1 : Int32)))] [] h3)))))) : zwV 2 mX4_putChains q 18 [(0, .ref 43), (1, .int v1), (2, .int v2), (3, .int v3)] [] h := by
  refine zw_iload_n 3 dX4_putChains_18 rfl rfl rfl ?_
  refine zw_if_lt (tg := 39) dX4_putChains_19 (by decide) rfl (fun c => ?_) (fun c => ?_)
  · have K := K.1 c
    refine zw_iinc (v := (v2 + (1 : Int32))) 2 dX4_putChains_39 rfl rfl (by decide) rfl rfl ?_
    refine zw_goto (np := 6) dX4_putChains_42 (by decide) ?_
    exact zw.sub [1, 2, 0] rfl K
  · have K := K.2 c
    refine zw_aload_n 0 dX4_putChains_22 rfl rfl rfl ?_
    refine zw_getR f_X4_18 dX4_putChains_23 zs_43 rfl rfl ?_
    refine zw_iload_n 3 dX4_putChains_26 rfl rfl rfl ?_
    refine zw_aload_n 0 dX4_putChains_27 rfl rfl rfl ?_
    refine zw_iload_n 3 dX4_putChains_28 rfl rfl rfl ?_
    obtain ⟨q1, ct, K⟩ := K
    refine zw_callV (n := 1) (As := [.int v3]) (rest := [.int v3, .ref 46]) ct my_X4_sumStrictlyBelow rfl rfl k_X4_41 i_X4_sumStrictlyBelow s_X4_sumStrictlyBelow zs_43 rfl dX4_putChains_29 (by decide) (Nat.le_of_ble_eq_true rfl) (Nat.le_refl 0) (Nat.le_refl 0) rfl (fun r s1 h1 hq => ?_)
    obtain ⟨x1, rfl, rfl, hq⟩ := hq
    have K := K x1 h1 hq
    refine zw.st (st' := [.long x1, .int v3, .ref 46]) rfl ?_
    obtain ⟨j2, hj2, hn2, K⟩ := K
    refine zw_last j2 dX4_putChains_32 zs_46 ⟨hj2, hn2⟩ (by decide) rfl ?_
    generalize e3 : zw_sL h1 46 j2 x1 = h3
    have K := K h3 e3.symm
    refine zw_iinc (v := (v3 + (-1 : Int32))) 3 dX4_putChains_33 rfl rfl (by decide) rfl rfl ?_
    refine zw_goto (np := 18) dX4_putChains_36 (by decide) ?_
    exact zw.sub [1, 2, 3, 0] rfl K

set_option maxRecDepth 100000 in
set_option maxHeartbeats 4000000 in
theorem rX4_putMaximalChains_0 {q : zw_H → Prop} {h : zw_H} (K : (∃ q1 : zw_H → Prop, zcV 0 mX4_startAtFirst [.ref 43] h q1 ∧ (∀ h1 : zw_H, q1 h1 → zwV 3 mX4_putMaximalChains q 6 [(0, .ref 43), (1, .int (1 : Int32))] [] h1))) : zwV 3 mX4_putMaximalChains q 0 [(0, .ref 43)] [] h := by
  refine zw_aload_n 0 dX4_putMaximalChains_0 rfl rfl rfl ?_
  obtain ⟨q1, ct, K⟩ := K
  refine zw_callV (n := 0) (As := []) (rest := []) ct my_X4_startAtFirst rfl rfl k_X4_38 i_X4_startAtFirst s_X4_startAtFirst zs_43 rfl dX4_putMaximalChains_1 (by decide) (Nat.le_of_ble_eq_true rfl) (Nat.le_refl 0) (Nat.le_refl 0) rfl (fun r s1 h1 hq => ?_)
  obtain ⟨rfl, rfl, hq⟩ := hq
  have K := K h1 hq
  refine zw.st (st' := []) rfl ?_
  refine zw_iconst (v := (1 : Int32)) dX4_putMaximalChains_4 (by decide) rfl ?_
  refine zw_istore_n dX4_putMaximalChains_5 rfl (by decide) rfl rfl ?_
  exact zw.sub [1, 0] rfl K

set_option maxRecDepth 100000 in
set_option maxHeartbeats 4000000 in
theorem rX4_putMaximalChains_6 {q : zw_H → Prop} {h : zw_H} {v1 : Int32} (K : (((h.1 43 4) ≤ v1 → q h) ∧ (¬ (h.1 43 4) ≤ v1 → (∃ q1 : Int64 → zw_H → Prop, zcL 2 mX4_sumCovered [.ref 43, .int v1] h q1 ∧ (∀ (x1 : Int64) (h1 : zw_H), q1 x1 h1 → (∃ j2 : Nat, v1 = nI j2 ∧ j2 < 203 ∧ ∀ h3 : zw_H, h3 = zw_sL h1 46 j2 x1 → zwV 3 mX4_putMaximalChains q 6 [(0, .ref 43), (1, .int (v1 + (1 : Int32)))] [] h3)))))) : zwV 3 mX4_putMaximalChains q 6 [(0, .ref 43), (1, .int v1)] [] h := by
  refine zw_iload_n 1 dX4_putMaximalChains_6 rfl rfl rfl ?_
  refine zw_aload_n 0 dX4_putMaximalChains_7 rfl rfl rfl ?_
  refine zw_getI f_X4_25 dX4_putMaximalChains_8 zs_43 rfl rfl ?_
  refine zw_icmp_ge (tg := 31) dX4_putMaximalChains_11 (by decide) rfl (fun c => ?_) (fun c => ?_)
  · have K := K.1 c
    exact zw_return dX4_putMaximalChains_31 rfl (Nat.le_refl 0) (Nat.le_refl 0) ⟨rfl, rfl, K⟩
  · have K := K.2 c
    refine zw_aload_n 0 dX4_putMaximalChains_14 rfl rfl rfl ?_
    refine zw_getR f_X4_18 dX4_putMaximalChains_15 zs_43 rfl rfl ?_
    refine zw_iload_n 1 dX4_putMaximalChains_18 rfl rfl rfl ?_
    refine zw_aload_n 0 dX4_putMaximalChains_19 rfl rfl rfl ?_
    refine zw_iload_n 1 dX4_putMaximalChains_20 rfl rfl rfl ?_
    obtain ⟨q1, ct, K⟩ := K
    refine zw_callV (n := 1) (As := [.int v1]) (rest := [.int v1, .ref 46]) ct my_X4_sumCovered rfl rfl k_X4_45 i_X4_sumCovered s_X4_sumCovered zs_43 rfl dX4_putMaximalChains_21 (by decide) (Nat.le_of_ble_eq_true rfl) (Nat.le_refl 0) (Nat.le_refl 0) rfl (fun r s1 h1 hq => ?_)
    obtain ⟨x1, rfl, rfl, hq⟩ := hq
    have K := K x1 h1 hq
    refine zw.st (st' := [.long x1, .int v1, .ref 46]) rfl ?_
    obtain ⟨j2, hj2, hn2, K⟩ := K
    refine zw_last j2 dX4_putMaximalChains_24 zs_46 ⟨hj2, hn2⟩ (by decide) rfl ?_
    generalize e3 : zw_sL h1 46 j2 x1 = h3
    have K := K h3 e3.symm
    refine zw_iinc (v := (v1 + (1 : Int32))) 1 dX4_putMaximalChains_25 rfl rfl (by decide) rfl rfl ?_
    refine zw_goto (np := 6) dX4_putMaximalChains_28 (by decide) ?_
    exact zw.sub [1, 0] rfl K

set_option maxRecDepth 100000 in
set_option maxHeartbeats 4000000 in
theorem rX4_putHeights_0 {q : zw_H → Prop} {h : zw_H} (K : zwV 1 mX4_putHeights q 2 [(0, .ref 43), (1, .int (0 : Int32))] [] h) : zwV 1 mX4_putHeights q 0 [(0, .ref 43)] [] h := by
  refine zw_iconst (v := (0 : Int32)) dX4_putHeights_0 (by decide) rfl ?_
  refine zw_istore_n dX4_putHeights_1 rfl (by decide) rfl rfl ?_
  exact zw.sub [1, 0] rfl K

set_option maxRecDepth 100000 in
set_option maxHeartbeats 4000000 in
theorem rX4_putHeights_2 {q : zw_H → Prop} {h : zw_H} {v1 : Int32} (K : (((h.1 43 4) ≤ v1 → q h) ∧ (¬ (h.1 43 4) ≤ v1 → zwV 1 mX4_putHeights q 15 [(0, .ref 43), (1, .int v1), (2, .long (0 : Int64)), (4, .int (0 : Int32))] [] h))) : zwV 1 mX4_putHeights q 2 [(0, .ref 43), (1, .int v1)] [] h := by
  refine zw_iload_n 1 dX4_putHeights_2 rfl rfl rfl ?_
  refine zw_aload_n 0 dX4_putHeights_3 rfl rfl rfl ?_
  refine zw_getI f_X4_25 dX4_putHeights_4 zs_43 rfl rfl ?_
  refine zw_icmp_ge (tg := 73) dX4_putHeights_7 (by decide) rfl (fun c => ?_) (fun c => ?_)
  · have K := K.1 c
    exact zw_return dX4_putHeights_73 rfl (Nat.le_refl 0) (Nat.le_refl 0) ⟨rfl, rfl, K⟩
  · have K := K.2 c
    refine zw_lconst (v := (0 : Int64)) dX4_putHeights_10 (by decide) rfl ?_
    refine zw_lstore_n dX4_putHeights_11 rfl (by decide) rfl rfl ?_
    refine zw_iconst (v := (0 : Int32)) dX4_putHeights_12 (by decide) rfl ?_
    refine zw_istore dX4_putHeights_13 (by decide) rfl rfl ?_
    exact zw.sub [2, 3, 1, 0] rfl K

set_option maxRecDepth 100000 in
set_option maxHeartbeats 4000000 in
theorem rX4_putHeights_15 {q : zw_H → Prop} {h : zw_H} {v1 v4 : Int32} {w2 : Int64} (K : ((v1 ≤ v4 → (∃ j1 : Nat, v1 = nI j1 ∧ j1 < 203 ∧ ∀ h2 : zw_H, h2 = zw_sL h 46 j1 w2 → zwV 1 mX4_putHeights q 2 [(0, .ref 43), (1, .int (v1 + (1 : Int32)))] [] h2)) ∧ (¬ v1 ≤ v4 → (∃ j3 : Nat, v4 = nI j3 ∧ j3 < 203 ∧ (∃ j4 : Nat, v1 = nI j4 ∧ j4 < 203 ∧ (∃ q5 : Int32 → zw_H → Prop, zcI 0 mX7_isBelow [.int (h.1 44 j3), .int (h.1 44 j4)] h q5 ∧ (∀ (x5 : Int32) (h5 : zw_H), q5 x5 h5 → ((x5 = 0 → zwV 1 mX4_putHeights q 15 [(0, .ref 43), (1, .int v1), (2, .long w2), (4, .int (v4 + (1 : Int32)))] [] h5) ∧ (¬ x5 = 0 → (∃ j6 : Nat, v4 = nI j6 ∧ j6 < 203 ∧ zwV 1 mX4_putHeights q 15 [(0, .ref 43), (1, .int v1), (2, .long (zmaxL w2 ((h5.2 46 j6) + (1 : Int64)))), (4, .int (v4 + (1 : Int32)))] [] h5)))))))))) : zwV 1 mX4_putHeights q 15 [(0, .ref 43), (1, .int v1), (2, .long w2), (4, .int v4)] [] h := by
  refine zw_iload 3 dX4_putHeights_15 rfl rfl ?_
  refine zw_iload_n 1 dX4_putHeights_17 rfl rfl rfl ?_
  refine zw_icmp_ge (tg := 60) dX4_putHeights_18 (by decide) rfl (fun c => ?_) (fun c => ?_)
  · have K := K.1 c
    refine zw_aload_n 0 dX4_putHeights_60 rfl rfl rfl ?_
    refine zw_getR f_X4_18 dX4_putHeights_61 zs_43 rfl rfl ?_
    refine zw_iload_n 1 dX4_putHeights_64 rfl rfl rfl ?_
    refine zw_lload_n 2 dX4_putHeights_65 rfl rfl rfl ?_
    obtain ⟨j1, hj1, hn1, K⟩ := K
    refine zw_last j1 dX4_putHeights_66 zs_46 ⟨hj1, hn1⟩ (by decide) rfl ?_
    generalize e2 : zw_sL h 46 j1 w2 = h2
    have K := K h2 e2.symm
    refine zw_iinc (v := (v1 + (1 : Int32))) 1 dX4_putHeights_67 rfl rfl (by decide) rfl rfl ?_
    refine zw_goto (np := 2) dX4_putHeights_70 (by decide) ?_
    exact zw.sub [1, 0] rfl K
  · have K := K.2 c
    refine zw_aload_n 0 dX4_putHeights_21 rfl rfl rfl ?_
    refine zw_getR f_X4_9 dX4_putHeights_22 zs_43 rfl rfl ?_
    refine zw_iload 3 dX4_putHeights_25 rfl rfl ?_
    obtain ⟨j3, hj3, hn3, K⟩ := K
    refine zw_iald j3 dX4_putHeights_27 zs_44 ⟨hj3, hn3⟩ (by decide) rfl ?_
    refine zw_aload_n 0 dX4_putHeights_28 rfl rfl rfl ?_
    refine zw_getR f_X4_9 dX4_putHeights_29 zs_43 rfl rfl ?_
    refine zw_iload_n 1 dX4_putHeights_32 rfl rfl rfl ?_
    obtain ⟨j4, hj4, hn4, K⟩ := K
    refine zw_iald j4 dX4_putHeights_33 zs_44 ⟨hj4, hn4⟩ (by decide) rfl ?_
    obtain ⟨q5, ct, K⟩ := K
    refine zw_callSN (n := 2) (As := [.int (h.1 44 j3), .int (h.1 44 j4)]) (rest := []) ct my_X7_isBelow rfl rfl k_X4_33 t_X7_isBelow dX4_putHeights_34 (by decide) (Nat.le_of_ble_eq_true rfl) (Nat.le_refl 0) (Nat.le_refl 0) rfl (fun r s1 h5 hq => ?_)
    obtain ⟨x5, rfl, rfl, hq⟩ := hq
    have K := K x5 h5 hq
    refine zw.st (st' := [.int x5]) rfl ?_
    refine zw_if_eq (tg := 54) dX4_putHeights_37 (by decide) rfl (fun c => ?_) (fun c => ?_)
    · have K := K.1 c
      refine zw_iinc (v := (v4 + (1 : Int32))) 3 dX4_putHeights_54 rfl rfl (by decide) rfl rfl ?_
      refine zw_goto (np := 15) dX4_putHeights_57 (by decide) ?_
      exact zw.sub [1, 2, 3, 0] rfl K
    · have K := K.2 c
      refine zw_lload_n 2 dX4_putHeights_40 rfl rfl rfl ?_
      refine zw_aload_n 0 dX4_putHeights_41 rfl rfl rfl ?_
      refine zw_getR f_X4_18 dX4_putHeights_42 zs_43 rfl rfl ?_
      refine zw_iload 3 dX4_putHeights_45 rfl rfl ?_
      obtain ⟨j6, hj6, hn6, K⟩ := K
      refine zw_lald j6 dX4_putHeights_47 zs_46 ⟨hj6, hn6⟩ (by decide) rfl ?_
      refine zw_lconst (v := (1 : Int64)) dX4_putHeights_48 (by decide) rfl ?_
      refine zw_ladd dX4_putHeights_49 rfl ?_
      refine zw_maxl k_X4_48 dX4_putHeights_50 (by decide) (Nat.le_of_ble_eq_true rfl) (Nat.le_refl 0) (Nat.le_refl 0) rfl ?_
      refine zw_lstore_n dX4_putHeights_53 rfl (by decide) rfl rfl ?_
      refine zw_iinc (v := (v4 + (1 : Int32))) 3 dX4_putHeights_54 rfl rfl (by decide) rfl rfl ?_
      refine zw_goto (np := 15) dX4_putHeights_57 (by decide) ?_
      exact zw.sub [2, 3, 1, 0] rfl K

set_option maxRecDepth 100000 in
set_option maxHeartbeats 4000000 in
theorem rX4_sumStrictlyBelow_0 {q : Int64 → zw_H → Prop} {h : zw_H} {v1 : Int32} (K : zwL 1 mX4_sumStrictlyBelow q 5 [(0, .ref 43), (1, .int v1), (2, .long (0 : Int64)), (4, .int (0 : Int32))] [] h) : zwL 1 mX4_sumStrictlyBelow q 0 [(0, .ref 43), (1, .int v1)] [] h := by
  refine zw_lconst (v := (0 : Int64)) dX4_sumStrictlyBelow_0 (by decide) rfl ?_
  refine zw_lstore_n dX4_sumStrictlyBelow_1 rfl (by decide) rfl rfl ?_
  refine zw_iconst (v := (0 : Int32)) dX4_sumStrictlyBelow_2 (by decide) rfl ?_
  refine zw_istore dX4_sumStrictlyBelow_3 (by decide) rfl rfl ?_
  exact zw.sub [2, 3, 1, 0] rfl K

set_option maxRecDepth 100000 in
set_option maxHeartbeats 4000000 in
theorem rX4_sumStrictlyBelow_5 {q : Int64 → zw_H → Prop} {h : zw_H} {v1 v4 : Int32} {w2 : Int64} (K : ((v1 ≤ v4 → q w2 h) ∧ (¬ v1 ≤ v4 → (∃ j1 : Nat, v4 = nI j1 ∧ j1 < 203 ∧ (∃ j2 : Nat, v1 = nI j2 ∧ j2 < 203 ∧ (∃ q3 : Int32 → zw_H → Prop, zcI 0 mX7_isBelow [.int (h.1 44 j1), .int (h.1 44 j2)] h q3 ∧ (∀ (x3 : Int32) (h3 : zw_H), q3 x3 h3 → ((x3 = 0 → zwL 1 mX4_sumStrictlyBelow q 5 [(0, .ref 43), (1, .int v1), (2, .long w2), (4, .int (v4 + (1 : Int32)))] [] h3) ∧ (¬ x3 = 0 → (∃ j4 : Nat, v4 = nI j4 ∧ j4 < 203 ∧ zwL 1 mX4_sumStrictlyBelow q 5 [(0, .ref 43), (1, .int v1), (2, .long (w2 + (h3.2 46 j4))), (4, .int (v4 + (1 : Int32)))] [] h3)))))))))) : zwL 1 mX4_sumStrictlyBelow q 5 [(0, .ref 43), (1, .int v1), (2, .long w2), (4, .int v4)] [] h := by
  refine zw_iload 3 dX4_sumStrictlyBelow_5 rfl rfl ?_
  refine zw_iload_n 1 dX4_sumStrictlyBelow_7 rfl rfl rfl ?_
  refine zw_icmp_ge (tg := 46) dX4_sumStrictlyBelow_8 (by decide) rfl (fun c => ?_) (fun c => ?_)
  · have K := K.1 c
    refine zw_lload_n 2 dX4_sumStrictlyBelow_46 rfl rfl rfl ?_
    exact zw_lreturn dX4_sumStrictlyBelow_47 rfl (Nat.le_refl 0) (Nat.le_refl 0) ⟨_, rfl, rfl, K⟩
  · have K := K.2 c
    refine zw_aload_n 0 dX4_sumStrictlyBelow_11 rfl rfl rfl ?_
    refine zw_getR f_X4_9 dX4_sumStrictlyBelow_12 zs_43 rfl rfl ?_
    refine zw_iload 3 dX4_sumStrictlyBelow_15 rfl rfl ?_
    obtain ⟨j1, hj1, hn1, K⟩ := K
    refine zw_iald j1 dX4_sumStrictlyBelow_17 zs_44 ⟨hj1, hn1⟩ (by decide) rfl ?_
    refine zw_aload_n 0 dX4_sumStrictlyBelow_18 rfl rfl rfl ?_
    refine zw_getR f_X4_9 dX4_sumStrictlyBelow_19 zs_43 rfl rfl ?_
    refine zw_iload_n 1 dX4_sumStrictlyBelow_22 rfl rfl rfl ?_
    obtain ⟨j2, hj2, hn2, K⟩ := K
    refine zw_iald j2 dX4_sumStrictlyBelow_23 zs_44 ⟨hj2, hn2⟩ (by decide) rfl ?_
    obtain ⟨q3, ct, K⟩ := K
    refine zw_callSN (n := 2) (As := [.int (h.1 44 j1), .int (h.1 44 j2)]) (rest := []) ct my_X7_isBelow rfl rfl k_X4_33 t_X7_isBelow dX4_sumStrictlyBelow_24 (by decide) (Nat.le_of_ble_eq_true rfl) (Nat.le_refl 0) (Nat.le_refl 0) rfl (fun r s1 h3 hq => ?_)
    obtain ⟨x3, rfl, rfl, hq⟩ := hq
    have K := K x3 h3 hq
    refine zw.st (st' := [.int x3]) rfl ?_
    refine zw_if_eq (tg := 40) dX4_sumStrictlyBelow_27 (by decide) rfl (fun c => ?_) (fun c => ?_)
    · have K := K.1 c
      refine zw_iinc (v := (v4 + (1 : Int32))) 3 dX4_sumStrictlyBelow_40 rfl rfl (by decide) rfl rfl ?_
      refine zw_goto (np := 5) dX4_sumStrictlyBelow_43 (by decide) ?_
      exact zw.sub [1, 2, 3, 0] rfl K
    · have K := K.2 c
      refine zw_lload_n 2 dX4_sumStrictlyBelow_30 rfl rfl rfl ?_
      refine zw_aload_n 0 dX4_sumStrictlyBelow_31 rfl rfl rfl ?_
      refine zw_getR f_X4_18 dX4_sumStrictlyBelow_32 zs_43 rfl rfl ?_
      refine zw_iload 3 dX4_sumStrictlyBelow_35 rfl rfl ?_
      obtain ⟨j4, hj4, hn4, K⟩ := K
      refine zw_lald j4 dX4_sumStrictlyBelow_37 zs_46 ⟨hj4, hn4⟩ (by decide) rfl ?_
      refine zw_ladd dX4_sumStrictlyBelow_38 rfl ?_
      refine zw_lstore_n dX4_sumStrictlyBelow_39 rfl (by decide) rfl rfl ?_
      refine zw_iinc (v := (v4 + (1 : Int32))) 3 dX4_sumStrictlyBelow_40 rfl rfl (by decide) rfl rfl ?_
      refine zw_goto (np := 5) dX4_sumStrictlyBelow_43 (by decide) ?_
      exact zw.sub [2, 3, 1, 0] rfl K

set_option maxRecDepth 100000 in
set_option maxHeartbeats 4000000 in
theorem rX4_sumCovered_0 {q : Int64 → zw_H → Prop} {h : zw_H} {v1 : Int32} (K : zwL 2 mX4_sumCovered q 10 [(0, .ref 43), (1, .int v1), (2, .long (0 : Int64)), (4, .int (0 : Int32)), (5, .int (v1 - (1 : Int32)))] [] h) : zwL 2 mX4_sumCovered q 0 [(0, .ref 43), (1, .int v1)] [] h := by
  refine zw_lconst (v := (0 : Int64)) dX4_sumCovered_0 (by decide) rfl ?_
  refine zw_lstore_n dX4_sumCovered_1 rfl (by decide) rfl rfl ?_
  refine zw_iconst (v := (0 : Int32)) dX4_sumCovered_2 (by decide) rfl ?_
  refine zw_istore dX4_sumCovered_3 (by decide) rfl rfl ?_
  refine zw_iload_n 3 dX4_sumCovered_5 rfl rfl rfl ?_
  refine zw_iconst (v := (1 : Int32)) dX4_sumCovered_6 (by decide) rfl ?_
  refine zw_isub dX4_sumCovered_7 rfl ?_
  refine zw_istore dX4_sumCovered_8 (by decide) rfl rfl ?_
  exact zw.sub [3, 4, 2, 1, 0] rfl K

set_option maxRecDepth 100000 in
set_option maxHeartbeats 4000000 in
theorem rX4_sumCovered_10 {q : Int64 → zw_H → Prop} {h : zw_H} {v1 v4 v5 : Int32} {w2 : Int64} (K : ((v5 < 0 → q w2 h) ∧ (¬ v5 < 0 → (∃ j1 : Nat, v5 = nI j1 ∧ j1 < 203 ∧ (∃ j2 : Nat, v1 = nI j2 ∧ j2 < 203 ∧ (∃ q3 : Int32 → zw_H → Prop, zcI 0 mX7_isBelow [.int (h.1 44 j1), .int (h.1 44 j2)] h q3 ∧ (∀ (x3 : Int32) (h3 : zw_H), q3 x3 h3 → ((x3 = 0 → zwL 2 mX4_sumCovered q 10 [(0, .ref 43), (1, .int v1), (2, .long w2), (4, .int v4), (5, .int (v5 + (-1 : Int32)))] [] h3) ∧ (¬ x3 = 0 → (∃ j4 : Nat, v5 = nI j4 ∧ j4 < 203 ∧ (∃ q5 : Int32 → zw_H → Prop, zcI 1 mX4_isBelowCovered [.ref 43, .int (h3.1 44 j4), .int v4] h3 q5 ∧ (∀ (x5 : Int32) (h5 : zw_H), q5 x5 h5 → ((¬ x5 = 0 → zwL 2 mX4_sumCovered q 10 [(0, .ref 43), (1, .int v1), (2, .long w2), (4, .int v4), (5, .int (v5 + (-1 : Int32)))] [] h5) ∧ (x5 = 0 → (∃ j6 : Nat, v5 = nI j6 ∧ j6 < 203 ∧ (∃ j7 : Nat, v4 = nI j7 ∧ j7 < 203 ∧ ∀ h8 : zw_H, h8 = zw_sI h5 47 j7 (h5.1 44 j6) → (∃ j9 : Nat, v5 = nI j9 ∧ j9 < 203 ∧ zwL 2 mX4_sumCovered q 10 [(0, .ref 43), (1, .int v1), (2, .long (w2 + (h8.2 46 j9))), (4, .int (v4 + (1 : Int32))), (5, .int (v5 + (-1 : Int32)))] [] h8))))))))))))))))) : zwL 2 mX4_sumCovered q 10 [(0, .ref 43), (1, .int v1), (2, .long w2), (4, .int v4), (5, .int v5)] [] h := by
  refine zw_iload 4 dX4_sumCovered_10 rfl rfl ?_
  refine zw_if_lt (tg := 83) dX4_sumCovered_12 (by decide) rfl (fun c => ?_) (fun c => ?_)
  · have K := K.1 c
    refine zw_lload_n 2 dX4_sumCovered_83 rfl rfl rfl ?_
    exact zw_lreturn dX4_sumCovered_84 rfl (Nat.le_refl 0) (Nat.le_refl 0) ⟨_, rfl, rfl, K⟩
  · have K := K.2 c
    refine zw_aload_n 0 dX4_sumCovered_15 rfl rfl rfl ?_
    refine zw_getR f_X4_9 dX4_sumCovered_16 zs_43 rfl rfl ?_
    refine zw_iload 4 dX4_sumCovered_19 rfl rfl ?_
    obtain ⟨j1, hj1, hn1, K⟩ := K
    refine zw_iald j1 dX4_sumCovered_21 zs_44 ⟨hj1, hn1⟩ (by decide) rfl ?_
    refine zw_aload_n 0 dX4_sumCovered_22 rfl rfl rfl ?_
    refine zw_getR f_X4_9 dX4_sumCovered_23 zs_43 rfl rfl ?_
    refine zw_iload_n 1 dX4_sumCovered_26 rfl rfl rfl ?_
    obtain ⟨j2, hj2, hn2, K⟩ := K
    refine zw_iald j2 dX4_sumCovered_27 zs_44 ⟨hj2, hn2⟩ (by decide) rfl ?_
    obtain ⟨q3, ct, K⟩ := K
    refine zw_callSN (n := 2) (As := [.int (h.1 44 j1), .int (h.1 44 j2)]) (rest := []) ct my_X7_isBelow rfl rfl k_X4_33 t_X7_isBelow dX4_sumCovered_28 (by decide) (Nat.le_of_ble_eq_true rfl) (Nat.le_refl 0) (Nat.le_refl 0) rfl (fun r s1 h3 hq => ?_)
    obtain ⟨x3, rfl, rfl, hq⟩ := hq
    have K := K x3 h3 hq
    refine zw.st (st' := [.int x3]) rfl ?_
    refine zw_if_eq (tg := 77) dX4_sumCovered_31 (by decide) rfl (fun c => ?_) (fun c => ?_)
    · have K := K.1 c
      refine zw_iinc (v := (v5 + (-1 : Int32))) 4 dX4_sumCovered_77 rfl rfl (by decide) rfl rfl ?_
      refine zw_goto (np := 10) dX4_sumCovered_80 (by decide) ?_
      exact zw.sub [1, 2, 3, 4, 0] rfl K
    · have K := K.2 c
      refine zw_aload_n 0 dX4_sumCovered_34 rfl rfl rfl ?_
      refine zw_aload_n 0 dX4_sumCovered_35 rfl rfl rfl ?_
      refine zw_getR f_X4_9 dX4_sumCovered_36 zs_43 rfl rfl ?_
      refine zw_iload 4 dX4_sumCovered_39 rfl rfl ?_
      obtain ⟨j4, hj4, hn4, K⟩ := K
      refine zw_iald j4 dX4_sumCovered_41 zs_44 ⟨hj4, hn4⟩ (by decide) rfl ?_
      refine zw_iload 3 dX4_sumCovered_42 rfl rfl ?_
      obtain ⟨q5, ct, K⟩ := K
      refine zw_callV (n := 2) (As := [.int (h3.1 44 j4), .int v4]) (rest := []) ct my_X4_isBelowCovered rfl rfl k_X4_54 i_X4_isBelowCovered s_X4_isBelowCovered zs_43 rfl dX4_sumCovered_44 (by decide) (Nat.le_of_ble_eq_true rfl) (Nat.le_refl 0) (Nat.le_refl 0) rfl (fun r s1 h5 hq => ?_)
      obtain ⟨x5, rfl, rfl, hq⟩ := hq
      have K := K x5 h5 hq
      refine zw.st (st' := [.int x5]) rfl ?_
      refine zw_if_ne (tg := 77) dX4_sumCovered_47 (by decide) rfl (fun c => ?_) (fun c => ?_)
      · have K := K.1 c
        refine zw_iinc (v := (v5 + (-1 : Int32))) 4 dX4_sumCovered_77 rfl rfl (by decide) rfl rfl ?_
        refine zw_goto (np := 10) dX4_sumCovered_80 (by decide) ?_
        exact zw.sub [1, 2, 3, 4, 0] rfl K
      · have K := K.2 c
        refine zw_aload_n 0 dX4_sumCovered_50 rfl rfl rfl ?_
        refine zw_getR f_X4_22 dX4_sumCovered_51 zs_43 rfl rfl ?_
        refine zw_iload 3 dX4_sumCovered_54 rfl rfl ?_
        refine zw_aload_n 0 dX4_sumCovered_56 rfl rfl rfl ?_
        refine zw_getR f_X4_9 dX4_sumCovered_57 zs_43 rfl rfl ?_
        refine zw_iload 4 dX4_sumCovered_60 rfl rfl ?_
        obtain ⟨j6, hj6, hn6, K⟩ := K
        refine zw_iald j6 dX4_sumCovered_62 zs_44 ⟨hj6, hn6⟩ (by decide) rfl ?_
        obtain ⟨j7, hj7, hn7, K⟩ := K
        refine zw_iast j7 dX4_sumCovered_63 zs_47 ⟨hj7, hn7⟩ (by decide) rfl ?_
        generalize e8 : zw_sI h5 47 j7 (h5.1 44 j6) = h8
        have K := K h8 e8.symm
        refine zw_iinc (v := (v4 + (1 : Int32))) 3 dX4_sumCovered_64 rfl rfl (by decide) rfl rfl ?_
        refine zw_lload_n 3 dX4_sumCovered_67 rfl rfl rfl ?_
        refine zw_aload_n 1 dX4_sumCovered_68 rfl rfl rfl ?_
        refine zw_getR f_X4_18 dX4_sumCovered_69 zs_43 rfl rfl ?_
        refine zw_iload 4 dX4_sumCovered_72 rfl rfl ?_
        obtain ⟨j9, hj9, hn9, K⟩ := K
        refine zw_lald j9 dX4_sumCovered_74 zs_46 ⟨hj9, hn9⟩ (by decide) rfl ?_
        refine zw_ladd dX4_sumCovered_75 rfl ?_
        refine zw_lstore_n dX4_sumCovered_76 rfl (by decide) rfl rfl ?_
        refine zw_iinc (v := (v5 + (-1 : Int32))) 4 dX4_sumCovered_77 rfl rfl (by decide) rfl rfl ?_
        refine zw_goto (np := 10) dX4_sumCovered_80 (by decide) ?_
        exact zw.sub [3, 4, 1, 2, 0] rfl K

set_option maxRecDepth 100000 in
set_option maxHeartbeats 4000000 in
theorem rX4_isBelowCovered_0 {q : Int32 → zw_H → Prop} {h : zw_H} {v1 v2 : Int32} (K : zwI 1 mX4_isBelowCovered q 2 [(0, .ref 43), (1, .int v1), (2, .int v2), (3, .int (0 : Int32))] [] h) : zwI 1 mX4_isBelowCovered q 0 [(0, .ref 43), (1, .int v1), (2, .int v2)] [] h := by
  refine zw_iconst (v := (0 : Int32)) dX4_isBelowCovered_0 (by decide) rfl ?_
  refine zw_istore_n dX4_isBelowCovered_1 rfl (by decide) rfl rfl ?_
  exact zw.sub [1, 2, 3, 0] rfl K

set_option maxRecDepth 100000 in
set_option maxHeartbeats 4000000 in
theorem rX4_isBelowCovered_2 {q : Int32 → zw_H → Prop} {h : zw_H} {v1 v2 v3 : Int32} (K : ((v2 ≤ v3 → q (0 : Int32) h) ∧ (¬ v2 ≤ v3 → (∃ j1 : Nat, v3 = nI j1 ∧ j1 < 203 ∧ (∃ q2 : Int32 → zw_H → Prop, zcI 0 mX7_isBelow [.int v1, .int (h.1 47 j1)] h q2 ∧ (∀ (x2 : Int32) (h2 : zw_H), q2 x2 h2 → ((x2 = 0 → zwI 1 mX4_isBelowCovered q 2 [(0, .ref 43), (1, .int v1), (2, .int v2), (3, .int (v3 + (1 : Int32)))] [] h2) ∧ (¬ x2 = 0 → q (1 : Int32) h2)))))))) : zwI 1 mX4_isBelowCovered q 2 [(0, .ref 43), (1, .int v1), (2, .int v2), (3, .int v3)] [] h := by
  refine zw_iload_n 3 dX4_isBelowCovered_2 rfl rfl rfl ?_
  refine zw_iload_n 2 dX4_isBelowCovered_3 rfl rfl rfl ?_
  refine zw_icmp_ge (tg := 28) dX4_isBelowCovered_4 (by decide) rfl (fun c => ?_) (fun c => ?_)
  · have K := K.1 c
    refine zw_iconst (v := (0 : Int32)) dX4_isBelowCovered_28 (by decide) rfl ?_
    exact zw_ireturn (ty := .boolean) dX4_isBelowCovered_29 rfl rfl (Nat.le_refl 0) (Nat.le_refl 0) ⟨_, rfl, rfl, K⟩
  · have K := K.2 c
    refine zw_iload_n 1 dX4_isBelowCovered_7 rfl rfl rfl ?_
    refine zw_aload_n 0 dX4_isBelowCovered_8 rfl rfl rfl ?_
    refine zw_getR f_X4_22 dX4_isBelowCovered_9 zs_43 rfl rfl ?_
    refine zw_iload_n 3 dX4_isBelowCovered_12 rfl rfl rfl ?_
    obtain ⟨j1, hj1, hn1, K⟩ := K
    refine zw_iald j1 dX4_isBelowCovered_13 zs_47 ⟨hj1, hn1⟩ (by decide) rfl ?_
    obtain ⟨q2, ct, K⟩ := K
    refine zw_callSN (n := 2) (As := [.int v1, .int (h.1 47 j1)]) (rest := []) ct my_X7_isBelow rfl rfl k_X4_33 t_X7_isBelow dX4_isBelowCovered_14 (by decide) (Nat.le_of_ble_eq_true rfl) (Nat.le_refl 0) (Nat.le_refl 0) rfl (fun r s1 h2 hq => ?_)
    obtain ⟨x2, rfl, rfl, hq⟩ := hq
    have K := K x2 h2 hq
    refine zw.st (st' := [.int x2]) rfl ?_
    refine zw_if_eq (tg := 22) dX4_isBelowCovered_17 (by decide) rfl (fun c => ?_) (fun c => ?_)
    · have K := K.1 c
      refine zw_iinc (v := (v3 + (1 : Int32))) 3 dX4_isBelowCovered_22 rfl rfl (by decide) rfl rfl ?_
      refine zw_goto (np := 2) dX4_isBelowCovered_25 (by decide) ?_
      exact zw.sub [1, 2, 3, 0] rfl K
    · have K := K.2 c
      refine zw_iconst (v := (1 : Int32)) dX4_isBelowCovered_20 (by decide) rfl ?_
      exact zw_ireturn (ty := .boolean) dX4_isBelowCovered_21 rfl rfl (Nat.le_refl 0) (Nat.le_refl 0) ⟨_, rfl, rfl, K⟩

set_option maxRecDepth 100000 in
set_option maxHeartbeats 4000000 in
theorem rX5_reset_0 {q : zw_H → Prop} {h : zw_H} {v1 : Int32} (K : zwV 0 mX5_reset q 2 [(0, .ref 1), (1, .int v1), (2, .int (0 : Int32))] [] h) : zwV 0 mX5_reset q 0 [(0, .ref 1), (1, .int v1)] [] h := by
  refine zw_iconst (v := (0 : Int32)) dX5_reset_0 (by decide) rfl ?_
  refine zw_istore_n dX5_reset_1 rfl (by decide) rfl rfl ?_
  exact zw.sub [1, 2, 0] rfl K

set_option maxRecDepth 100000 in
set_option maxHeartbeats 4000000 in
theorem rX5_reset_2 {q : zw_H → Prop} {h : zw_H} {v1 v2 : Int32} (K : (((8 : Int32) ≤ v2 → (∀ h1 : zw_H, h1 = zw_sI h 1 1 v1 → (∀ h2 : zw_H, h2 = zw_sI h1 1 2 (126 : Int32) → (∀ h3 : zw_H, h3 = zw_sI h2 1 3 (126 : Int32) → (∀ h4 : zw_H, h4 = zw_sI h3 1 4 (0 : Int32) → (∀ h5 : zw_H, h5 = zw_sI h4 1 5 (0 : Int32) → (∀ h6 : zw_H, h6 = zw_sI h5 1 6 (0 : Int32) → q h6))))))) ∧ (¬ (8 : Int32) ≤ v2 → (∃ j7 : Nat, v2 = nI j7 ∧ j7 < 8 ∧ ∀ h8 : zw_H, h8 = zw_sI h 2 j7 (-1 : Int32) → zwV 0 mX5_reset q 2 [(0, .ref 1), (1, .int v1), (2, .int (v2 + (1 : Int32)))] [] h8)))) : zwV 0 mX5_reset q 2 [(0, .ref 1), (1, .int v1), (2, .int v2)] [] h := by
  refine zw_iload_n 2 dX5_reset_2 rfl rfl rfl ?_
  refine zw_bipush (v := (8 : Int32)) dX5_reset_3 (by decide) rfl ?_
  refine zw_icmp_ge (tg := 21) dX5_reset_5 (by decide) rfl (fun c => ?_) (fun c => ?_)
  · have K := K.1 c
    refine zw_aload_n 0 dX5_reset_21 rfl rfl rfl ?_
    refine zw_iload_n 1 dX5_reset_22 rfl rfl rfl ?_
    refine zw_putI f_X5_15 cl_X5 rfl ⟨rfl, rfl⟩ dX5_reset_23 zs_1 rfl rfl ?_
    generalize e1 : zw_sI h 1 1 v1 = h1
    have K := K h1 e1.symm
    refine zw_aload_n 0 dX5_reset_26 rfl rfl rfl ?_
    refine zw_bipush (v := (126 : Int32)) dX5_reset_27 (by decide) rfl ?_
    refine zw_putI f_X5_19 cl_X5 rfl ⟨rfl, rfl⟩ dX5_reset_29 zs_1 rfl rfl ?_
    generalize e2 : zw_sI h1 1 2 (126 : Int32) = h2
    have K := K h2 e2.symm
    refine zw_aload_n 0 dX5_reset_32 rfl rfl rfl ?_
    refine zw_bipush (v := (126 : Int32)) dX5_reset_33 (by decide) rfl ?_
    refine zw_putI f_X5_22 cl_X5 rfl ⟨rfl, rfl⟩ dX5_reset_35 zs_1 rfl rfl ?_
    generalize e3 : zw_sI h2 1 3 (126 : Int32) = h3
    have K := K h3 e3.symm
    refine zw_aload_n 0 dX5_reset_38 rfl rfl rfl ?_
    refine zw_iconst (v := (0 : Int32)) dX5_reset_39 (by decide) rfl ?_
    refine zw_putI f_X5_25 cl_X5 rfl ⟨rfl, rfl⟩ dX5_reset_40 zs_1 rfl rfl ?_
    generalize e4 : zw_sI h3 1 4 (0 : Int32) = h4
    have K := K h4 e4.symm
    refine zw_aload_n 0 dX5_reset_43 rfl rfl rfl ?_
    refine zw_iconst (v := (0 : Int32)) dX5_reset_44 (by decide) rfl ?_
    refine zw_putI f_X5_28 cl_X5 rfl ⟨rfl, rfl⟩ dX5_reset_45 zs_1 rfl rfl ?_
    generalize e5 : zw_sI h4 1 5 (0 : Int32) = h5
    have K := K h5 e5.symm
    refine zw_aload_n 0 dX5_reset_48 rfl rfl rfl ?_
    refine zw_iconst (v := (0 : Int32)) dX5_reset_49 (by decide) rfl ?_
    refine zw_putI f_X5_31 cl_X5 rfl ⟨rfl, rfl⟩ dX5_reset_50 zs_1 rfl rfl ?_
    generalize e6 : zw_sI h5 1 6 (0 : Int32) = h6
    have K := K h6 e6.symm
    exact zw_return dX5_reset_53 rfl (Nat.le_refl 0) (Nat.le_refl 0) ⟨rfl, rfl, K⟩
  · have K := K.2 c
    refine zw_aload_n 0 dX5_reset_8 rfl rfl rfl ?_
    refine zw_getR f_X5_9 dX5_reset_9 zs_1 rfl rfl ?_
    refine zw_iload_n 2 dX5_reset_12 rfl rfl rfl ?_
    refine zw_iconst (v := (-1 : Int32)) dX5_reset_13 (by decide) rfl ?_
    obtain ⟨j7, hj7, hn7, K⟩ := K
    refine zw_iast j7 dX5_reset_14 zs_2 ⟨hj7, hn7⟩ (by decide) rfl ?_
    generalize e8 : zw_sI h 2 j7 (-1 : Int32) = h8
    have K := K h8 e8.symm
    refine zw_iinc (v := (v2 + (1 : Int32))) 2 dX5_reset_15 rfl rfl (by decide) rfl rfl ?_
    refine zw_goto (np := 2) dX5_reset_18 (by decide) ?_
    exact zw.sub [1, 2, 0] rfl K

set_option maxRecDepth 100000 in
set_option maxHeartbeats 4000000 in
theorem rX5_takeFrom_0 {q : zw_H → Prop} {h : zw_H} {o ra o2 ra2 : Nat} (ho : zSH[o]? = some (.inl (5, [some (some ra), none, none, none, none, none, none]))) (hra : zSH[ra]? = some (.inr (0, 8, fun _ => none))) (ho2 : zSH[o2]? = some (.inl (5, [some (some ra2), none, none, none, none, none, none]))) (hra2 : zSH[ra2]? = some (.inr (0, 8, fun _ => none))) (K : zwV 0 mX5_takeFrom q 2 [(0, .ref o), (1, .ref o2), (2, .int (0 : Int32))] [] h) : zwV 0 mX5_takeFrom q 0 [(0, .ref o), (1, .ref o2)] [] h := by
  refine zw_iconst (v := (0 : Int32)) dX5_takeFrom_0 (by decide) rfl ?_
  refine zw_istore_n dX5_takeFrom_1 rfl (by decide) rfl rfl ?_
  exact zw.sub [1, 2, 0] rfl K

set_option maxRecDepth 100000 in
set_option maxHeartbeats 4000000 in
theorem rX5_takeFrom_2 {q : zw_H → Prop} {h : zw_H} {o ra o2 ra2 : Nat} {v2 : Int32} (ho : zSH[o]? = some (.inl (5, [some (some ra), none, none, none, none, none, none]))) (hra : zSH[ra]? = some (.inr (0, 8, fun _ => none))) (ho2 : zSH[o2]? = some (.inl (5, [some (some ra2), none, none, none, none, none, none]))) (hra2 : zSH[ra2]? = some (.inr (0, 8, fun _ => none))) (K : (((8 : Int32) ≤ v2 → (∀ h1 : zw_H, h1 = zw_sI h o 1 (h.1 o2 1) → (∀ h2 : zw_H, h2 = zw_sI h1 o 2 (h1.1 o2 2) → (∀ h3 : zw_H, h3 = zw_sI h2 o 3 (h2.1 o2 3) → (∀ h4 : zw_H, h4 = zw_sI h3 o 4 (h3.1 o2 4) → (∀ h5 : zw_H, h5 = zw_sI h4 o 5 (h4.1 o2 5) → (((h5.1 o2 6) = 0 ∨ (h5.1 o2 6) = 1) ∧ ∀ h6 : zw_H, h6 = zw_sI h5 o 6 (h5.1 o2 6) → q h6))))))) ∧ (¬ (8 : Int32) ≤ v2 → (∃ j7 : Nat, v2 = nI j7 ∧ j7 < 8 ∧ (∃ j8 : Nat, v2 = nI j8 ∧ j8 < 8 ∧ ∀ h9 : zw_H, h9 = zw_sI h ra j8 (h.1 ra2 j7) → zwV 0 mX5_takeFrom q 2 [(0, .ref o), (1, .ref o2), (2, .int (v2 + (1 : Int32)))] [] h9))))) : zwV 0 mX5_takeFrom q 2 [(0, .ref o), (1, .ref o2), (2, .int v2)] [] h := by
  refine zw_iload_n 2 dX5_takeFrom_2 rfl rfl rfl ?_
  refine zw_bipush (v := (8 : Int32)) dX5_takeFrom_3 (by decide) rfl ?_
  refine zw_icmp_ge (tg := 26) dX5_takeFrom_5 (by decide) rfl (fun c => ?_) (fun c => ?_)
  · have K := K.1 c
    refine zw_aload_n 0 dX5_takeFrom_26 rfl rfl rfl ?_
    refine zw_aload_n 1 dX5_takeFrom_27 rfl rfl rfl ?_
    refine zw_getI f_X5_15 dX5_takeFrom_28 ho2 rfl rfl ?_
    refine zw_putI f_X5_15 cl_X5 rfl ⟨rfl, rfl⟩ dX5_takeFrom_31 ho rfl rfl ?_
    generalize e1 : zw_sI h o 1 (h.1 o2 1) = h1
    have K := K h1 e1.symm
    refine zw_aload_n 0 dX5_takeFrom_34 rfl rfl rfl ?_
    refine zw_aload_n 1 dX5_takeFrom_35 rfl rfl rfl ?_
    refine zw_getI f_X5_19 dX5_takeFrom_36 ho2 rfl rfl ?_
    refine zw_putI f_X5_19 cl_X5 rfl ⟨rfl, rfl⟩ dX5_takeFrom_39 ho rfl rfl ?_
    generalize e2 : zw_sI h1 o 2 (h1.1 o2 2) = h2
    have K := K h2 e2.symm
    refine zw_aload_n 0 dX5_takeFrom_42 rfl rfl rfl ?_
    refine zw_aload_n 1 dX5_takeFrom_43 rfl rfl rfl ?_
    refine zw_getI f_X5_22 dX5_takeFrom_44 ho2 rfl rfl ?_
    refine zw_putI f_X5_22 cl_X5 rfl ⟨rfl, rfl⟩ dX5_takeFrom_47 ho rfl rfl ?_
    generalize e3 : zw_sI h2 o 3 (h2.1 o2 3) = h3
    have K := K h3 e3.symm
    refine zw_aload_n 0 dX5_takeFrom_50 rfl rfl rfl ?_
    refine zw_aload_n 1 dX5_takeFrom_51 rfl rfl rfl ?_
    refine zw_getI f_X5_25 dX5_takeFrom_52 ho2 rfl rfl ?_
    refine zw_putI f_X5_25 cl_X5 rfl ⟨rfl, rfl⟩ dX5_takeFrom_55 ho rfl rfl ?_
    generalize e4 : zw_sI h3 o 4 (h3.1 o2 4) = h4
    have K := K h4 e4.symm
    refine zw_aload_n 0 dX5_takeFrom_58 rfl rfl rfl ?_
    refine zw_aload_n 1 dX5_takeFrom_59 rfl rfl rfl ?_
    refine zw_getI f_X5_28 dX5_takeFrom_60 ho2 rfl rfl ?_
    refine zw_putI f_X5_28 cl_X5 rfl ⟨rfl, rfl⟩ dX5_takeFrom_63 ho rfl rfl ?_
    generalize e5 : zw_sI h4 o 5 (h4.1 o2 5) = h5
    have K := K h5 e5.symm
    refine zw_aload_n 0 dX5_takeFrom_66 rfl rfl rfl ?_
    refine zw_aload_n 1 dX5_takeFrom_67 rfl rfl rfl ?_
    refine zw_getI f_X5_31 dX5_takeFrom_68 ho2 rfl rfl ?_
    obtain ⟨hb, K⟩ := K
    refine zw_putI f_X5_31 cl_X5 rfl (zw_nb hb) dX5_takeFrom_71 ho rfl rfl ?_
    generalize e6 : zw_sI h5 o 6 (h5.1 o2 6) = h6
    have K := K h6 e6.symm
    exact zw_return dX5_takeFrom_74 rfl (Nat.le_refl 0) (Nat.le_refl 0) ⟨rfl, rfl, K⟩
  · have K := K.2 c
    refine zw_aload_n 0 dX5_takeFrom_8 rfl rfl rfl ?_
    refine zw_getR f_X5_9 dX5_takeFrom_9 ho rfl rfl ?_
    refine zw_iload_n 2 dX5_takeFrom_12 rfl rfl rfl ?_
    refine zw_aload_n 1 dX5_takeFrom_13 rfl rfl rfl ?_
    refine zw_getR f_X5_9 dX5_takeFrom_14 ho2 rfl rfl ?_
    refine zw_iload_n 2 dX5_takeFrom_17 rfl rfl rfl ?_
    obtain ⟨j7, hj7, hn7, K⟩ := K
    refine zw_iald j7 dX5_takeFrom_18 hra2 ⟨hj7, hn7⟩ (by decide) rfl ?_
    obtain ⟨j8, hj8, hn8, K⟩ := K
    refine zw_iast j8 dX5_takeFrom_19 hra ⟨hj8, hn8⟩ (by decide) rfl ?_
    generalize e9 : zw_sI h ra j8 (h.1 ra2 j7) = h9
    have K := K h9 e9.symm
    refine zw_iinc (v := (v2 + (1 : Int32))) 2 dX5_takeFrom_20 rfl rfl (by decide) rfl rfl ?_
    refine zw_goto (np := 2) dX5_takeFrom_23 (by decide) ?_
    exact zw.sub [1, 2, 0] rfl K

set_option maxRecDepth 100000 in
set_option maxHeartbeats 4000000 in
theorem rX5_filledRegisters_0 {q : Int32 → zw_H → Prop} {h : zw_H} (K : zwI 0 mX5_filledRegisters q 4 [(0, .ref 1), (1, .int (0 : Int32)), (2, .int (0 : Int32))] [] h) : zwI 0 mX5_filledRegisters q 0 [(0, .ref 1)] [] h := by
  refine zw_iconst (v := (0 : Int32)) dX5_filledRegisters_0 (by decide) rfl ?_
  refine zw_istore_n dX5_filledRegisters_1 rfl (by decide) rfl rfl ?_
  refine zw_iconst (v := (0 : Int32)) dX5_filledRegisters_2 (by decide) rfl ?_
  refine zw_istore_n dX5_filledRegisters_3 rfl (by decide) rfl rfl ?_
  exact zw.sub [2, 1, 0] rfl K

set_option maxRecDepth 100000 in
set_option maxHeartbeats 4000000 in
theorem rX5_filledRegisters_4 {q : Int32 → zw_H → Prop} {h : zw_H} {v1 v2 : Int32} (K : (((8 : Int32) ≤ v2 → q v1 h) ∧ (¬ (8 : Int32) ≤ v2 → (∃ j1 : Nat, v2 = nI j1 ∧ j1 < 8 ∧ (((h.1 2 j1) = (-1 : Int32) → zwI 0 mX5_filledRegisters q 4 [(0, .ref 1), (1, .int v1), (2, .int (v2 + (1 : Int32)))] [] h) ∧ (¬ (h.1 2 j1) = (-1 : Int32) → zwI 0 mX5_filledRegisters q 4 [(0, .ref 1), (1, .int (v1 + (1 : Int32))), (2, .int (v2 + (1 : Int32)))] [] h)))))) : zwI 0 mX5_filledRegisters q 4 [(0, .ref 1), (1, .int v1), (2, .int v2)] [] h := by
  refine zw_iload_n 2 dX5_filledRegisters_4 rfl rfl rfl ?_
  refine zw_bipush (v := (8 : Int32)) dX5_filledRegisters_5 (by decide) rfl ?_
  refine zw_icmp_ge (tg := 29) dX5_filledRegisters_7 (by decide) rfl (fun c => ?_) (fun c => ?_)
  · have K := K.1 c
    refine zw_iload_n 1 dX5_filledRegisters_29 rfl rfl rfl ?_
    exact zw_ireturn (ty := .int) dX5_filledRegisters_30 rfl rfl (Nat.le_refl 0) (Nat.le_refl 0) ⟨_, rfl, rfl, K⟩
  · have K := K.2 c
    refine zw_aload_n 0 dX5_filledRegisters_10 rfl rfl rfl ?_
    refine zw_getR f_X5_9 dX5_filledRegisters_11 zs_1 rfl rfl ?_
    refine zw_iload_n 2 dX5_filledRegisters_14 rfl rfl rfl ?_
    obtain ⟨j1, hj1, hn1, K⟩ := K
    refine zw_iald j1 dX5_filledRegisters_15 zs_2 ⟨hj1, hn1⟩ (by decide) rfl ?_
    refine zw_iconst (v := (-1 : Int32)) dX5_filledRegisters_16 (by decide) rfl ?_
    refine zw_icmp_eq (tg := 23) dX5_filledRegisters_17 (by decide) rfl (fun c => ?_) (fun c => ?_)
    · have K := K.1 c
      refine zw_iinc (v := (v2 + (1 : Int32))) 2 dX5_filledRegisters_23 rfl rfl (by decide) rfl rfl ?_
      refine zw_goto (np := 4) dX5_filledRegisters_26 (by decide) ?_
      exact zw.sub [1, 2, 0] rfl K
    · have K := K.2 c
      refine zw_iinc (v := (v1 + (1 : Int32))) 1 dX5_filledRegisters_20 rfl rfl (by decide) rfl rfl ?_
      refine zw_iinc (v := (v2 + (1 : Int32))) 2 dX5_filledRegisters_23 rfl rfl (by decide) rfl rfl ?_
      refine zw_goto (np := 4) dX5_filledRegisters_26 (by decide) ?_
      exact zw.sub [2, 1, 0] rfl K

set_option maxRecDepth 100000 in
set_option maxHeartbeats 4000000 in
theorem rX5_reason_0 {q : Int32 → zw_H → Prop} {h : zw_H} {v1 v2 v3 v4 : Int32} (K : (((v2 &&& ((h.1 1 2) ^^^ (-1 : Int32))) = 0 → ((¬ (((h.1 1 3) >>> (v3 &&& 31)) &&& (1 : Int32)) = 0 → (((v1 &&& (h.1 1 4)) = 0 → ((((h.1 1 5) &&& (v1 ^^^ (-1 : Int32))) = 0 → (((h.1 1 6) = 0 → q (0 : Int32) h) ∧ (¬ (h.1 1 6) = 0 → ((v4 = 0 → q (0 : Int32) h) ∧ (¬ v4 = 0 → q (5 : Int32) h))))) ∧ (¬ ((h.1 1 5) &&& (v1 ^^^ (-1 : Int32))) = 0 → q (4 : Int32) h))) ∧ (¬ (v1 &&& (h.1 1 4)) = 0 → q (3 : Int32) h))) ∧ ((((h.1 1 3) >>> (v3 &&& 31)) &&& (1 : Int32)) = 0 → q (2 : Int32) h))) ∧ (¬ (v2 &&& ((h.1 1 2) ^^^ (-1 : Int32))) = 0 → q (1 : Int32) h))) : zwI 0 mX5_reason q 0 [(0, .ref 1), (1, .int v1), (2, .int v2), (3, .int v3), (4, .int v4)] [] h := by
  refine zw_iload_n 2 dX5_reason_0 rfl rfl rfl ?_
  refine zw_aload_n 0 dX5_reason_1 rfl rfl rfl ?_
  refine zw_getI f_X5_19 dX5_reason_2 zs_1 rfl rfl ?_
  refine zw_iconst (v := (-1 : Int32)) dX5_reason_5 (by decide) rfl ?_
  refine zw_ixor dX5_reason_6 rfl ?_
  refine zw_iand dX5_reason_7 rfl ?_
  refine zw_if_eq (tg := 13) dX5_reason_8 (by decide) rfl (fun c => ?_) (fun c => ?_)
  · have K := K.1 c
    refine zw_aload_n 0 dX5_reason_13 rfl rfl rfl ?_
    refine zw_getI f_X5_22 dX5_reason_14 zs_1 rfl rfl ?_
    refine zw_iload_n 3 dX5_reason_17 rfl rfl rfl ?_
    refine zw_ishr dX5_reason_18 rfl ?_
    refine zw_iconst (v := (1 : Int32)) dX5_reason_19 (by decide) rfl ?_
    refine zw_iand dX5_reason_20 rfl ?_
    refine zw_if_ne (tg := 26) dX5_reason_21 (by decide) rfl (fun c => ?_) (fun c => ?_)
    · have K := K.1 c
      refine zw_iload_n 1 dX5_reason_26 rfl rfl rfl ?_
      refine zw_aload_n 0 dX5_reason_27 rfl rfl rfl ?_
      refine zw_getI f_X5_25 dX5_reason_28 zs_1 rfl rfl ?_
      refine zw_iand dX5_reason_31 rfl ?_
      refine zw_if_eq (tg := 37) dX5_reason_32 (by decide) rfl (fun c => ?_) (fun c => ?_)
      · have K := K.1 c
        refine zw_aload_n 0 dX5_reason_37 rfl rfl rfl ?_
        refine zw_getI f_X5_28 dX5_reason_38 zs_1 rfl rfl ?_
        refine zw_iload_n 1 dX5_reason_41 rfl rfl rfl ?_
        refine zw_iconst (v := (-1 : Int32)) dX5_reason_42 (by decide) rfl ?_
        refine zw_ixor dX5_reason_43 rfl ?_
        refine zw_iand dX5_reason_44 rfl ?_
        refine zw_if_eq (tg := 50) dX5_reason_45 (by decide) rfl (fun c => ?_) (fun c => ?_)
        · have K := K.1 c
          refine zw_aload_n 0 dX5_reason_50 rfl rfl rfl ?_
          refine zw_getI f_X5_31 dX5_reason_51 zs_1 rfl rfl ?_
          refine zw_if_eq (tg := 66) dX5_reason_54 (by decide) rfl (fun c => ?_) (fun c => ?_)
          · have K := K.1 c
            refine zw_iconst (v := (0 : Int32)) dX5_reason_66 (by decide) rfl ?_
            exact zw_ireturn (ty := .int) dX5_reason_67 rfl rfl (Nat.le_refl 0) (Nat.le_refl 0) ⟨_, rfl, rfl, K⟩
          · have K := K.2 c
            refine zw_iload 4 dX5_reason_57 rfl rfl ?_
            refine zw_if_eq (tg := 66) dX5_reason_59 (by decide) rfl (fun c => ?_) (fun c => ?_)
            · have K := K.1 c
              refine zw_iconst (v := (0 : Int32)) dX5_reason_66 (by decide) rfl ?_
              exact zw_ireturn (ty := .int) dX5_reason_67 rfl rfl (Nat.le_refl 0) (Nat.le_refl 0) ⟨_, rfl, rfl, K⟩
            · have K := K.2 c
              refine zw_iconst (v := (5 : Int32)) dX5_reason_62 (by decide) rfl ?_
              refine zw_goto (np := 67) dX5_reason_63 (by decide) ?_
              exact zw_ireturn (ty := .int) dX5_reason_67 rfl rfl (Nat.le_refl 0) (Nat.le_refl 0) ⟨_, rfl, rfl, K⟩
        · have K := K.2 c
          refine zw_iconst (v := (4 : Int32)) dX5_reason_48 (by decide) rfl ?_
          exact zw_ireturn (ty := .int) dX5_reason_49 rfl rfl (Nat.le_refl 0) (Nat.le_refl 0) ⟨_, rfl, rfl, K⟩
      · have K := K.2 c
        refine zw_iconst (v := (3 : Int32)) dX5_reason_35 (by decide) rfl ?_
        exact zw_ireturn (ty := .int) dX5_reason_36 rfl rfl (Nat.le_refl 0) (Nat.le_refl 0) ⟨_, rfl, rfl, K⟩
    · have K := K.2 c
      refine zw_iconst (v := (2 : Int32)) dX5_reason_24 (by decide) rfl ?_
      exact zw_ireturn (ty := .int) dX5_reason_25 rfl rfl (Nat.le_refl 0) (Nat.le_refl 0) ⟨_, rfl, rfl, K⟩
  · have K := K.2 c
    refine zw_iconst (v := (1 : Int32)) dX5_reason_11 (by decide) rfl ?_
    exact zw_ireturn (ty := .int) dX5_reason_12 rfl rfl (Nat.le_refl 0) (Nat.le_refl 0) ⟨_, rfl, rfl, K⟩

set_option maxRecDepth 100000 in
set_option maxHeartbeats 4000000 in
theorem rX6_append_0 {q : Int32 → zw_H → Prop} {h : zw_H} {v1 : Int32} (K : (((h.1 25 1) < (20 : Int32) → (∃ j1 : Nat, (h.1 25 1) = nI j1 ∧ j1 < 20 ∧ ∀ h2 : zw_H, h2 = zw_sI h 26 j1 v1 → (∀ h3 : zw_H, h3 = zw_sI h2 25 1 ((h2.1 25 1) + (1 : Int32)) → q (1 : Int32) h3))) ∧ (¬ (h.1 25 1) < (20 : Int32) → q (0 : Int32) h))) : zwI 0 mX6_append q 0 [(0, .ref 25), (1, .int v1)] [] h := by
  refine zw_aload_n 0 dX6_append_0 rfl rfl rfl ?_
  refine zw_getI f_X6_15 dX6_append_1 zs_25 rfl rfl ?_
  refine zw_bipush (v := (20 : Int32)) dX6_append_4 (by decide) rfl ?_
  refine zw_icmp_lt (tg := 11) dX6_append_6 (by decide) rfl (fun c => ?_) (fun c => ?_)
  · have K := K.1 c
    refine zw_aload_n 0 dX6_append_11 rfl rfl rfl ?_
    refine zw_getR f_X6_9 dX6_append_12 zs_25 rfl rfl ?_
    refine zw_aload_n 0 dX6_append_15 rfl rfl rfl ?_
    refine zw_getI f_X6_15 dX6_append_16 zs_25 rfl rfl ?_
    refine zw_iload_n 1 dX6_append_19 rfl rfl rfl ?_
    obtain ⟨j1, hj1, hn1, K⟩ := K
    refine zw_iast j1 dX6_append_20 zs_26 ⟨hj1, hn1⟩ (by decide) rfl ?_
    generalize e2 : zw_sI h 26 j1 v1 = h2
    have K := K h2 e2.symm
    refine zw_aload_n 0 dX6_append_21 rfl rfl rfl ?_
    refine zw_dup dX6_append_22 rfl rfl ?_
    refine zw_getI f_X6_15 dX6_append_23 zs_25 rfl rfl ?_
    refine zw_iconst (v := (1 : Int32)) dX6_append_26 (by decide) rfl ?_
    refine zw_iadd dX6_append_27 rfl ?_
    refine zw_putI f_X6_15 cl_X6 rfl ⟨rfl, rfl⟩ dX6_append_28 zs_25 rfl rfl ?_
    generalize e3 : zw_sI h2 25 1 ((h2.1 25 1) + (1 : Int32)) = h3
    have K := K h3 e3.symm
    refine zw_iconst (v := (1 : Int32)) dX6_append_31 (by decide) rfl ?_
    exact zw_ireturn (ty := .boolean) dX6_append_32 rfl rfl (Nat.le_refl 0) (Nat.le_refl 0) ⟨_, rfl, rfl, K⟩
  · have K := K.2 c
    refine zw_iconst (v := (0 : Int32)) dX6_append_9 (by decide) rfl ?_
    exact zw_ireturn (ty := .boolean) dX6_append_10 rfl rfl (Nat.le_refl 0) (Nat.le_refl 0) ⟨_, rfl, rfl, K⟩

set_option maxRecDepth 100000 in
set_option maxHeartbeats 4000000 in
theorem rX6_parse_0 {q : Int32 → zw_H → Prop} {h : zw_H} {v1 : Int32} (K : zwI 2 mX6_parse q 10 [(0, .ref 25), (1, .int v1), (2, .int (0 : Int32)), (3, .int (0 : Int32)), (4, .int (0 : Int32)), (5, .int (0 : Int32))] [] h) : zwI 2 mX6_parse q 0 [(0, .ref 25), (1, .int v1)] [] h := by
  refine zw_iconst (v := (0 : Int32)) dX6_parse_0 (by decide) rfl ?_
  refine zw_istore_n dX6_parse_1 rfl (by decide) rfl rfl ?_
  refine zw_iconst (v := (0 : Int32)) dX6_parse_2 (by decide) rfl ?_
  refine zw_istore_n dX6_parse_3 rfl (by decide) rfl rfl ?_
  refine zw_iconst (v := (0 : Int32)) dX6_parse_4 (by decide) rfl ?_
  refine zw_istore dX6_parse_5 (by decide) rfl rfl ?_
  refine zw_iconst (v := (0 : Int32)) dX6_parse_7 (by decide) rfl ?_
  refine zw_istore dX6_parse_8 (by decide) rfl rfl ?_
  exact zw.sub [4, 5, 3, 2, 1, 0] rfl K

set_option maxRecDepth 100000 in
set_option maxHeartbeats 4000000 in
theorem rX6_parse_10 {q : Int32 → zw_H → Prop} {h : zw_H} {v1 v2 v3 v4 v5 : Int32} (K : (((h.1 25 1) ≤ v5 → ((v4 = 0 → (((0 : Int32) = 0 → q ((-10 : Int32) - (h.1 25 1)) h) ∧ (¬ (0 : Int32) = 0 → q v2 h))) ∧ (¬ v4 = 0 → ((¬ v3 = (((1 : Int32) <<< (v1 &&& 31)) - (1 : Int32)) → (((0 : Int32) = 0 → q ((-10 : Int32) - (h.1 25 1)) h) ∧ (¬ (0 : Int32) = 0 → q v2 h))) ∧ (v3 = (((1 : Int32) <<< (v1 &&& 31)) - (1 : Int32)) → (((1 : Int32) = 0 → q ((-10 : Int32) - (h.1 25 1)) h) ∧ (¬ (1 : Int32) = 0 → q v2 h))))))) ∧ (¬ (h.1 25 1) ≤ v5 → (∃ j1 : Nat, v5 = nI j1 ∧ j1 < 20 ∧ ((((h.1 26 j1) - (48 : Int32)) < 0 → (∃ j2 : Nat, v5 = nI j2 ∧ j2 < 20 ∧ ((¬ (h.1 26 j2) = (47 : Int32) → q ((-10 : Int32) - v5) h) ∧ ((h.1 26 j2) = (47 : Int32) → ((v4 = 0 → q ((-10 : Int32) - v5) h) ∧ (¬ v4 = 0 → zwI 2 mX6_parse q 10 [(0, .ref 25), (1, .int v1), (2, .int v2), (3, .int v3), (4, .int (0 : Int32)), (5, .int (v5 + (1 : Int32)))] [] h)))))) ∧ (¬ ((h.1 26 j1) - (48 : Int32)) < 0 → ((v1 ≤ ((h.1 26 j1) - (48 : Int32)) → (∃ j3 : Nat, v5 = nI j3 ∧ j3 < 20 ∧ ((¬ (h.1 26 j3) = (47 : Int32) → q ((-10 : Int32) - v5) h) ∧ ((h.1 26 j3) = (47 : Int32) → ((v4 = 0 → q ((-10 : Int32) - v5) h) ∧ (¬ v4 = 0 → zwI 2 mX6_parse q 10 [(0, .ref 25), (1, .int v1), (2, .int v2), (3, .int v3), (4, .int (0 : Int32)), (5, .int (v5 + (1 : Int32)))] [] h)))))) ∧ (¬ v1 ≤ ((h.1 26 j1) - (48 : Int32)) → ((¬ ((v3 >>> (((h.1 26 j1) - (48 : Int32)) &&& 31)) &&& (1 : Int32)) = 0 → (∃ j4 : Nat, v5 = nI j4 ∧ j4 < 20 ∧ ((¬ (h.1 26 j4) = (47 : Int32) → q ((-10 : Int32) - v5) h) ∧ ((h.1 26 j4) = (47 : Int32) → ((v4 = 0 → q ((-10 : Int32) - v5) h) ∧ (¬ v4 = 0 → zwI 2 mX6_parse q 10 [(0, .ref 25), (1, .int v1), (2, .int v2), (3, .int v3), (4, .int (0 : Int32)), (5, .int (v5 + (1 : Int32)))] [] h)))))) ∧ (((v3 >>> (((h.1 26 j1) - (48 : Int32)) &&& 31)) &&& (1 : Int32)) = 0 → (∃ q5 : Int32 → zw_H → Prop, zcI 1 mX7_pairsWith [.int v4, .int ((h.1 26 j1) - (48 : Int32))] h q5 ∧ (∀ (x5 : Int32) (h5 : zw_H), q5 x5 h5 → zwI 2 mX6_parse q 10 [(0, .ref 25), (1, .int v1), (2, .int (v2 ||| x5)), (3, .int (v3 ||| ((1 : Int32) <<< (((h.1 26 j1) - (48 : Int32)) &&& 31)))), (4, .int (v4 ||| ((1 : Int32) <<< (((h.1 26 j1) - (48 : Int32)) &&& 31)))), (5, .int (v5 + (1 : Int32)))] [] h5)))))))))))) : zwI 2 mX6_parse q 10 [(0, .ref 25), (1, .int v1), (2, .int v2), (3, .int v3), (4, .int v4), (5, .int v5)] [] h := by
  refine zw_iload 5 dX6_parse_10 rfl rfl ?_
  refine zw_aload_n 0 dX6_parse_12 rfl rfl rfl ?_
  refine zw_getI f_X6_15 dX6_parse_13 zs_25 rfl rfl ?_
  refine zw_icmp_ge (tg := 115) dX6_parse_16 (by decide) rfl (fun c => ?_) (fun c => ?_)
  · have K := K.1 c
    refine zw_iload 4 dX6_parse_115 rfl rfl ?_
    refine zw_if_eq (tg := 133) dX6_parse_117 (by decide) rfl (fun c => ?_) (fun c => ?_)
    · have K := K.1 c
      refine zw_iconst (v := (0 : Int32)) dX6_parse_133 (by decide) rfl ?_
      refine zw_istore dX6_parse_134 (by decide) rfl rfl ?_
      refine zw_iload 0 dX6_parse_136 rfl rfl ?_
      refine zw_if_eq (tg := 145) dX6_parse_138 (by decide) rfl (fun c => ?_) (fun c => ?_)
      · have K := K.1 c
        refine zw_bipush (v := (-10 : Int32)) dX6_parse_145 (by decide) rfl ?_
        refine zw_aload_n 1 dX6_parse_147 rfl rfl rfl ?_
        refine zw_getI f_X6_15 dX6_parse_148 zs_25 rfl rfl ?_
        refine zw_isub dX6_parse_151 rfl ?_
        exact zw_ireturn (ty := .int) dX6_parse_152 rfl rfl (Nat.le_refl 0) (Nat.le_refl 0) ⟨_, rfl, rfl, K⟩
      · have K := K.2 c
        refine zw_iload_n 3 dX6_parse_141 rfl rfl rfl ?_
        refine zw_goto (np := 152) dX6_parse_142 (by decide) ?_
        exact zw_ireturn (ty := .int) dX6_parse_152 rfl rfl (Nat.le_refl 0) (Nat.le_refl 0) ⟨_, rfl, rfl, K⟩
    · have K := K.2 c
      refine zw_iload_n 3 dX6_parse_120 rfl rfl rfl ?_
      refine zw_iconst (v := (1 : Int32)) dX6_parse_121 (by decide) rfl ?_
      refine zw_iload_n 1 dX6_parse_122 rfl rfl rfl ?_
      refine zw_ishl dX6_parse_123 rfl ?_
      refine zw_iconst (v := (1 : Int32)) dX6_parse_124 (by decide) rfl ?_
      refine zw_isub dX6_parse_125 rfl ?_
      refine zw_icmp_ne (tg := 133) dX6_parse_126 (by decide) rfl (fun c => ?_) (fun c => ?_)
      · have K := K.1 c
        refine zw_iconst (v := (0 : Int32)) dX6_parse_133 (by decide) rfl ?_
        refine zw_istore dX6_parse_134 (by decide) rfl rfl ?_
        refine zw_iload 0 dX6_parse_136 rfl rfl ?_
        refine zw_if_eq (tg := 145) dX6_parse_138 (by decide) rfl (fun c => ?_) (fun c => ?_)
        · have K := K.1 c
          refine zw_bipush (v := (-10 : Int32)) dX6_parse_145 (by decide) rfl ?_
          refine zw_aload_n 1 dX6_parse_147 rfl rfl rfl ?_
          refine zw_getI f_X6_15 dX6_parse_148 zs_25 rfl rfl ?_
          refine zw_isub dX6_parse_151 rfl ?_
          exact zw_ireturn (ty := .int) dX6_parse_152 rfl rfl (Nat.le_refl 0) (Nat.le_refl 0) ⟨_, rfl, rfl, K⟩
        · have K := K.2 c
          refine zw_iload_n 3 dX6_parse_141 rfl rfl rfl ?_
          refine zw_goto (np := 152) dX6_parse_142 (by decide) ?_
          exact zw_ireturn (ty := .int) dX6_parse_152 rfl rfl (Nat.le_refl 0) (Nat.le_refl 0) ⟨_, rfl, rfl, K⟩
      · have K := K.2 c
        refine zw_iconst (v := (1 : Int32)) dX6_parse_129 (by decide) rfl ?_
        refine zw_goto (np := 134) dX6_parse_130 (by decide) ?_
        refine zw_istore dX6_parse_134 (by decide) rfl rfl ?_
        refine zw_iload 0 dX6_parse_136 rfl rfl ?_
        refine zw_if_eq (tg := 145) dX6_parse_138 (by decide) rfl (fun c => ?_) (fun c => ?_)
        · have K := K.1 c
          refine zw_bipush (v := (-10 : Int32)) dX6_parse_145 (by decide) rfl ?_
          refine zw_aload_n 1 dX6_parse_147 rfl rfl rfl ?_
          refine zw_getI f_X6_15 dX6_parse_148 zs_25 rfl rfl ?_
          refine zw_isub dX6_parse_151 rfl ?_
          exact zw_ireturn (ty := .int) dX6_parse_152 rfl rfl (Nat.le_refl 0) (Nat.le_refl 0) ⟨_, rfl, rfl, K⟩
        · have K := K.2 c
          refine zw_iload_n 3 dX6_parse_141 rfl rfl rfl ?_
          refine zw_goto (np := 152) dX6_parse_142 (by decide) ?_
          exact zw_ireturn (ty := .int) dX6_parse_152 rfl rfl (Nat.le_refl 0) (Nat.le_refl 0) ⟨_, rfl, rfl, K⟩
  · have K := K.2 c
    refine zw_aload_n 0 dX6_parse_19 rfl rfl rfl ?_
    refine zw_getR f_X6_9 dX6_parse_20 zs_25 rfl rfl ?_
    refine zw_iload 5 dX6_parse_23 rfl rfl ?_
    obtain ⟨j1, hj1, hn1, K⟩ := K
    refine zw_iald j1 dX6_parse_25 zs_26 ⟨hj1, hn1⟩ (by decide) rfl ?_
    refine zw_bipush (v := (48 : Int32)) dX6_parse_26 (by decide) rfl ?_
    refine zw_isub dX6_parse_28 rfl ?_
    refine zw_istore dX6_parse_29 (by decide) rfl rfl ?_
    refine zw_iload 0 dX6_parse_31 rfl rfl ?_
    refine zw_if_lt (tg := 80) dX6_parse_33 (by decide) rfl (fun c => ?_) (fun c => ?_)
    · have K := K.1 c
      refine zw_aload_n 1 dX6_parse_80 rfl rfl rfl ?_
      refine zw_getR f_X6_9 dX6_parse_81 zs_25 rfl rfl ?_
      refine zw_iload 6 dX6_parse_84 rfl rfl ?_
      obtain ⟨j2, hj2, hn2, K⟩ := K
      refine zw_iald j2 dX6_parse_86 zs_26 ⟨hj2, hn2⟩ (by decide) rfl ?_
      refine zw_bipush (v := (47 : Int32)) dX6_parse_87 (by decide) rfl ?_
      refine zw_icmp_ne (tg := 103) dX6_parse_89 (by decide) rfl (fun c => ?_) (fun c => ?_)
      · have K := K.1 c
        refine zw_bipush (v := (-10 : Int32)) dX6_parse_103 (by decide) rfl ?_
        refine zw_iload 6 dX6_parse_105 rfl rfl ?_
        refine zw_isub dX6_parse_107 rfl ?_
        exact zw_ireturn (ty := .int) dX6_parse_108 rfl rfl (Nat.le_refl 0) (Nat.le_refl 0) ⟨_, rfl, rfl, K⟩
      · have K := K.2 c
        refine zw_iload 5 dX6_parse_92 rfl rfl ?_
        refine zw_if_eq (tg := 103) dX6_parse_94 (by decide) rfl (fun c => ?_) (fun c => ?_)
        · have K := K.1 c
          refine zw_bipush (v := (-10 : Int32)) dX6_parse_103 (by decide) rfl ?_
          refine zw_iload 6 dX6_parse_105 rfl rfl ?_
          refine zw_isub dX6_parse_107 rfl ?_
          exact zw_ireturn (ty := .int) dX6_parse_108 rfl rfl (Nat.le_refl 0) (Nat.le_refl 0) ⟨_, rfl, rfl, K⟩
        · have K := K.2 c
          refine zw_iconst (v := (0 : Int32)) dX6_parse_97 (by decide) rfl ?_
          refine zw_istore dX6_parse_98 (by decide) rfl rfl ?_
          refine zw_goto (np := 109) dX6_parse_100 (by decide) ?_
          refine zw_iinc (v := (v5 + (1 : Int32))) 6 dX6_parse_109 rfl rfl (by decide) rfl rfl ?_
          refine zw_goto (np := 10) dX6_parse_112 (by decide) ?_
          exact zw.sub [3, 4, 5, 6, 1, 0] rfl K
    · have K := K.2 c
      refine zw_iload 0 dX6_parse_36 rfl rfl ?_
      refine zw_iload_n 2 dX6_parse_38 rfl rfl rfl ?_
      refine zw_icmp_ge (tg := 80) dX6_parse_39 (by decide) rfl (fun c => ?_) (fun c => ?_)
      · have K := K.1 c
        refine zw_aload_n 1 dX6_parse_80 rfl rfl rfl ?_
        refine zw_getR f_X6_9 dX6_parse_81 zs_25 rfl rfl ?_
        refine zw_iload 6 dX6_parse_84 rfl rfl ?_
        obtain ⟨j3, hj3, hn3, K⟩ := K
        refine zw_iald j3 dX6_parse_86 zs_26 ⟨hj3, hn3⟩ (by decide) rfl ?_
        refine zw_bipush (v := (47 : Int32)) dX6_parse_87 (by decide) rfl ?_
        refine zw_icmp_ne (tg := 103) dX6_parse_89 (by decide) rfl (fun c => ?_) (fun c => ?_)
        · have K := K.1 c
          refine zw_bipush (v := (-10 : Int32)) dX6_parse_103 (by decide) rfl ?_
          refine zw_iload 6 dX6_parse_105 rfl rfl ?_
          refine zw_isub dX6_parse_107 rfl ?_
          exact zw_ireturn (ty := .int) dX6_parse_108 rfl rfl (Nat.le_refl 0) (Nat.le_refl 0) ⟨_, rfl, rfl, K⟩
        · have K := K.2 c
          refine zw_iload 5 dX6_parse_92 rfl rfl ?_
          refine zw_if_eq (tg := 103) dX6_parse_94 (by decide) rfl (fun c => ?_) (fun c => ?_)
          · have K := K.1 c
            refine zw_bipush (v := (-10 : Int32)) dX6_parse_103 (by decide) rfl ?_
            refine zw_iload 6 dX6_parse_105 rfl rfl ?_
            refine zw_isub dX6_parse_107 rfl ?_
            exact zw_ireturn (ty := .int) dX6_parse_108 rfl rfl (Nat.le_refl 0) (Nat.le_refl 0) ⟨_, rfl, rfl, K⟩
          · have K := K.2 c
            refine zw_iconst (v := (0 : Int32)) dX6_parse_97 (by decide) rfl ?_
            refine zw_istore dX6_parse_98 (by decide) rfl rfl ?_
            refine zw_goto (np := 109) dX6_parse_100 (by decide) ?_
            refine zw_iinc (v := (v5 + (1 : Int32))) 6 dX6_parse_109 rfl rfl (by decide) rfl rfl ?_
            refine zw_goto (np := 10) dX6_parse_112 (by decide) ?_
            exact zw.sub [3, 4, 5, 6, 1, 0] rfl K
      · have K := K.2 c
        refine zw_iload_n 4 dX6_parse_42 rfl rfl rfl ?_
        refine zw_iload 0 dX6_parse_43 rfl rfl ?_
        refine zw_ishr dX6_parse_45 rfl ?_
        refine zw_iconst (v := (1 : Int32)) dX6_parse_46 (by decide) rfl ?_
        refine zw_iand dX6_parse_47 rfl ?_
        refine zw_if_ne (tg := 80) dX6_parse_48 (by decide) rfl (fun c => ?_) (fun c => ?_)
        · have K := K.1 c
          refine zw_aload_n 1 dX6_parse_80 rfl rfl rfl ?_
          refine zw_getR f_X6_9 dX6_parse_81 zs_25 rfl rfl ?_
          refine zw_iload 6 dX6_parse_84 rfl rfl ?_
          obtain ⟨j4, hj4, hn4, K⟩ := K
          refine zw_iald j4 dX6_parse_86 zs_26 ⟨hj4, hn4⟩ (by decide) rfl ?_
          refine zw_bipush (v := (47 : Int32)) dX6_parse_87 (by decide) rfl ?_
          refine zw_icmp_ne (tg := 103) dX6_parse_89 (by decide) rfl (fun c => ?_) (fun c => ?_)
          · have K := K.1 c
            refine zw_bipush (v := (-10 : Int32)) dX6_parse_103 (by decide) rfl ?_
            refine zw_iload 6 dX6_parse_105 rfl rfl ?_
            refine zw_isub dX6_parse_107 rfl ?_
            exact zw_ireturn (ty := .int) dX6_parse_108 rfl rfl (Nat.le_refl 0) (Nat.le_refl 0) ⟨_, rfl, rfl, K⟩
          · have K := K.2 c
            refine zw_iload 5 dX6_parse_92 rfl rfl ?_
            refine zw_if_eq (tg := 103) dX6_parse_94 (by decide) rfl (fun c => ?_) (fun c => ?_)
            · have K := K.1 c
              refine zw_bipush (v := (-10 : Int32)) dX6_parse_103 (by decide) rfl ?_
              refine zw_iload 6 dX6_parse_105 rfl rfl ?_
              refine zw_isub dX6_parse_107 rfl ?_
              exact zw_ireturn (ty := .int) dX6_parse_108 rfl rfl (Nat.le_refl 0) (Nat.le_refl 0) ⟨_, rfl, rfl, K⟩
            · have K := K.2 c
              refine zw_iconst (v := (0 : Int32)) dX6_parse_97 (by decide) rfl ?_
              refine zw_istore dX6_parse_98 (by decide) rfl rfl ?_
              refine zw_goto (np := 109) dX6_parse_100 (by decide) ?_
              refine zw_iinc (v := (v5 + (1 : Int32))) 6 dX6_parse_109 rfl rfl (by decide) rfl rfl ?_
              refine zw_goto (np := 10) dX6_parse_112 (by decide) ?_
              exact zw.sub [3, 4, 5, 6, 1, 0] rfl K
        · have K := K.2 c
          refine zw_iload_n 3 dX6_parse_51 rfl rfl rfl ?_
          refine zw_iload 5 dX6_parse_52 rfl rfl ?_
          refine zw_iload 0 dX6_parse_54 rfl rfl ?_
          obtain ⟨q5, ct, K⟩ := K
          refine zw_callSN (n := 2) (As := [.int v4, .int ((h.1 26 j1) - (48 : Int32))]) (rest := [.int v2]) ct my_X7_pairsWith rfl rfl k_X6_19 t_X7_pairsWith dX6_parse_56 (by decide) (Nat.le_of_ble_eq_true rfl) (Nat.le_refl 0) (Nat.le_refl 0) rfl (fun r s1 h5 hq => ?_)
          obtain ⟨x5, rfl, rfl, hq⟩ := hq
          have K := K x5 h5 hq
          refine zw.st (st' := [.int x5, .int v2]) rfl ?_
          refine zw_ior dX6_parse_59 rfl ?_
          refine zw_istore_n dX6_parse_60 rfl (by decide) rfl rfl ?_
          refine zw_iload 5 dX6_parse_61 rfl rfl ?_
          refine zw_iconst (v := (1 : Int32)) dX6_parse_63 (by decide) rfl ?_
          refine zw_iload 1 dX6_parse_64 rfl rfl ?_
          refine zw_ishl dX6_parse_66 rfl ?_
          refine zw_ior dX6_parse_67 rfl ?_
          refine zw_istore dX6_parse_68 (by decide) rfl rfl ?_
          refine zw_iload_n 5 dX6_parse_70 rfl rfl rfl ?_
          refine zw_iconst (v := (1 : Int32)) dX6_parse_71 (by decide) rfl ?_
          refine zw_iload 2 dX6_parse_72 rfl rfl ?_
          refine zw_ishl dX6_parse_74 rfl ?_
          refine zw_ior dX6_parse_75 rfl ?_
          refine zw_istore_n dX6_parse_76 rfl (by decide) rfl rfl ?_
          refine zw_goto (np := 109) dX6_parse_77 (by decide) ?_
          refine zw_iinc (v := (v5 + (1 : Int32))) 6 dX6_parse_109 rfl rfl (by decide) rfl rfl ?_
          refine zw_goto (np := 10) dX6_parse_112 (by decide) ?_
          exact zw.sub [5, 6, 3, 1, 2, 0] rfl K

set_option maxRecDepth 100000 in
set_option maxHeartbeats 4000000 in
theorem rJ6_bitCount_0f7a4_0 {q : Int32 → zw_H → Prop} {h : zw_H} {v0 : Int32} (K : q ((((((((v0 - (((Int32.toUInt32 v0 >>> (Int32.toUInt32 (1 : Int32) &&& Int32.toUInt32 31)).toInt32) &&& (1431655765 : Int32))) &&& (858993459 : Int32)) + (((Int32.toUInt32 (v0 - (((Int32.toUInt32 v0 >>> (Int32.toUInt32 (1 : Int32) &&& Int32.toUInt32 31)).toInt32) &&& (1431655765 : Int32))) >>> (Int32.toUInt32 (2 : Int32) &&& Int32.toUInt32 31)).toInt32) &&& (858993459 : Int32))) + ((Int32.toUInt32 (((v0 - (((Int32.toUInt32 v0 >>> (Int32.toUInt32 (1 : Int32) &&& Int32.toUInt32 31)).toInt32) &&& (1431655765 : Int32))) &&& (858993459 : Int32)) + (((Int32.toUInt32 (v0 - (((Int32.toUInt32 v0 >>> (Int32.toUInt32 (1 : Int32) &&& Int32.toUInt32 31)).toInt32) &&& (1431655765 : Int32))) >>> (Int32.toUInt32 (2 : Int32) &&& Int32.toUInt32 31)).toInt32) &&& (858993459 : Int32))) >>> (Int32.toUInt32 (4 : Int32) &&& Int32.toUInt32 31)).toInt32)) &&& (252645135 : Int32)) + ((Int32.toUInt32 (((((v0 - (((Int32.toUInt32 v0 >>> (Int32.toUInt32 (1 : Int32) &&& Int32.toUInt32 31)).toInt32) &&& (1431655765 : Int32))) &&& (858993459 : Int32)) + (((Int32.toUInt32 (v0 - (((Int32.toUInt32 v0 >>> (Int32.toUInt32 (1 : Int32) &&& Int32.toUInt32 31)).toInt32) &&& (1431655765 : Int32))) >>> (Int32.toUInt32 (2 : Int32) &&& Int32.toUInt32 31)).toInt32) &&& (858993459 : Int32))) + ((Int32.toUInt32 (((v0 - (((Int32.toUInt32 v0 >>> (Int32.toUInt32 (1 : Int32) &&& Int32.toUInt32 31)).toInt32) &&& (1431655765 : Int32))) &&& (858993459 : Int32)) + (((Int32.toUInt32 (v0 - (((Int32.toUInt32 v0 >>> (Int32.toUInt32 (1 : Int32) &&& Int32.toUInt32 31)).toInt32) &&& (1431655765 : Int32))) >>> (Int32.toUInt32 (2 : Int32) &&& Int32.toUInt32 31)).toInt32) &&& (858993459 : Int32))) >>> (Int32.toUInt32 (4 : Int32) &&& Int32.toUInt32 31)).toInt32)) &&& (252645135 : Int32)) >>> (Int32.toUInt32 (8 : Int32) &&& Int32.toUInt32 31)).toInt32)) + ((Int32.toUInt32 ((((((v0 - (((Int32.toUInt32 v0 >>> (Int32.toUInt32 (1 : Int32) &&& Int32.toUInt32 31)).toInt32) &&& (1431655765 : Int32))) &&& (858993459 : Int32)) + (((Int32.toUInt32 (v0 - (((Int32.toUInt32 v0 >>> (Int32.toUInt32 (1 : Int32) &&& Int32.toUInt32 31)).toInt32) &&& (1431655765 : Int32))) >>> (Int32.toUInt32 (2 : Int32) &&& Int32.toUInt32 31)).toInt32) &&& (858993459 : Int32))) + ((Int32.toUInt32 (((v0 - (((Int32.toUInt32 v0 >>> (Int32.toUInt32 (1 : Int32) &&& Int32.toUInt32 31)).toInt32) &&& (1431655765 : Int32))) &&& (858993459 : Int32)) + (((Int32.toUInt32 (v0 - (((Int32.toUInt32 v0 >>> (Int32.toUInt32 (1 : Int32) &&& Int32.toUInt32 31)).toInt32) &&& (1431655765 : Int32))) >>> (Int32.toUInt32 (2 : Int32) &&& Int32.toUInt32 31)).toInt32) &&& (858993459 : Int32))) >>> (Int32.toUInt32 (4 : Int32) &&& Int32.toUInt32 31)).toInt32)) &&& (252645135 : Int32)) + ((Int32.toUInt32 (((((v0 - (((Int32.toUInt32 v0 >>> (Int32.toUInt32 (1 : Int32) &&& Int32.toUInt32 31)).toInt32) &&& (1431655765 : Int32))) &&& (858993459 : Int32)) + (((Int32.toUInt32 (v0 - (((Int32.toUInt32 v0 >>> (Int32.toUInt32 (1 : Int32) &&& Int32.toUInt32 31)).toInt32) &&& (1431655765 : Int32))) >>> (Int32.toUInt32 (2 : Int32) &&& Int32.toUInt32 31)).toInt32) &&& (858993459 : Int32))) + ((Int32.toUInt32 (((v0 - (((Int32.toUInt32 v0 >>> (Int32.toUInt32 (1 : Int32) &&& Int32.toUInt32 31)).toInt32) &&& (1431655765 : Int32))) &&& (858993459 : Int32)) + (((Int32.toUInt32 (v0 - (((Int32.toUInt32 v0 >>> (Int32.toUInt32 (1 : Int32) &&& Int32.toUInt32 31)).toInt32) &&& (1431655765 : Int32))) >>> (Int32.toUInt32 (2 : Int32) &&& Int32.toUInt32 31)).toInt32) &&& (858993459 : Int32))) >>> (Int32.toUInt32 (4 : Int32) &&& Int32.toUInt32 31)).toInt32)) &&& (252645135 : Int32)) >>> (Int32.toUInt32 (8 : Int32) &&& Int32.toUInt32 31)).toInt32)) >>> (Int32.toUInt32 (16 : Int32) &&& Int32.toUInt32 31)).toInt32)) &&& (63 : Int32)) h) : zwI 0 mJ6_bitCount_0f7a4 q 0 [(0, .int v0)] [] h := by
  refine zw_iload_n 0 dJ6_bitCount_0f7a4_0 rfl rfl rfl ?_
  refine zw_iload_n 0 dJ6_bitCount_0f7a4_1 rfl rfl rfl ?_
  refine zw_iconst (v := (1 : Int32)) dJ6_bitCount_0f7a4_2 (by decide) rfl ?_
  refine zw_iushr dJ6_bitCount_0f7a4_3 rfl ?_
  refine zw_ldc_w n_J6_265 dJ6_bitCount_0f7a4_4 rfl ?_
  refine zw_iand dJ6_bitCount_0f7a4_7 rfl ?_
  refine zw_isub dJ6_bitCount_0f7a4_8 rfl ?_
  refine zw_istore_n dJ6_bitCount_0f7a4_9 rfl (by decide) rfl rfl ?_
  refine zw_iload_n 0 dJ6_bitCount_0f7a4_10 rfl rfl rfl ?_
  refine zw_ldc_w n_J6_266 dJ6_bitCount_0f7a4_11 rfl ?_
  refine zw_iand dJ6_bitCount_0f7a4_14 rfl ?_
  refine zw_iload_n 0 dJ6_bitCount_0f7a4_15 rfl rfl rfl ?_
  refine zw_iconst (v := (2 : Int32)) dJ6_bitCount_0f7a4_16 (by decide) rfl ?_
  refine zw_iushr dJ6_bitCount_0f7a4_17 rfl ?_
  refine zw_ldc_w n_J6_266 dJ6_bitCount_0f7a4_18 rfl ?_
  refine zw_iand dJ6_bitCount_0f7a4_21 rfl ?_
  refine zw_iadd dJ6_bitCount_0f7a4_22 rfl ?_
  refine zw_istore_n dJ6_bitCount_0f7a4_23 rfl (by decide) rfl rfl ?_
  refine zw_iload_n 0 dJ6_bitCount_0f7a4_24 rfl rfl rfl ?_
  refine zw_iload_n 0 dJ6_bitCount_0f7a4_25 rfl rfl rfl ?_
  refine zw_iconst (v := (4 : Int32)) dJ6_bitCount_0f7a4_26 (by decide) rfl ?_
  refine zw_iushr dJ6_bitCount_0f7a4_27 rfl ?_
  refine zw_iadd dJ6_bitCount_0f7a4_28 rfl ?_
  refine zw_ldc_w n_J6_267 dJ6_bitCount_0f7a4_29 rfl ?_
  refine zw_iand dJ6_bitCount_0f7a4_32 rfl ?_
  refine zw_istore_n dJ6_bitCount_0f7a4_33 rfl (by decide) rfl rfl ?_
  refine zw_iload_n 0 dJ6_bitCount_0f7a4_34 rfl rfl rfl ?_
  refine zw_iload_n 0 dJ6_bitCount_0f7a4_35 rfl rfl rfl ?_
  refine zw_bipush (v := (8 : Int32)) dJ6_bitCount_0f7a4_36 (by decide) rfl ?_
  refine zw_iushr dJ6_bitCount_0f7a4_38 rfl ?_
  refine zw_iadd dJ6_bitCount_0f7a4_39 rfl ?_
  refine zw_istore_n dJ6_bitCount_0f7a4_40 rfl (by decide) rfl rfl ?_
  refine zw_iload_n 0 dJ6_bitCount_0f7a4_41 rfl rfl rfl ?_
  refine zw_iload_n 0 dJ6_bitCount_0f7a4_42 rfl rfl rfl ?_
  refine zw_bipush (v := (16 : Int32)) dJ6_bitCount_0f7a4_43 (by decide) rfl ?_
  refine zw_iushr dJ6_bitCount_0f7a4_45 rfl ?_
  refine zw_iadd dJ6_bitCount_0f7a4_46 rfl ?_
  refine zw_istore_n dJ6_bitCount_0f7a4_47 rfl (by decide) rfl rfl ?_
  refine zw_iload_n 0 dJ6_bitCount_0f7a4_48 rfl rfl rfl ?_
  refine zw_bipush (v := (63 : Int32)) dJ6_bitCount_0f7a4_49 (by decide) rfl ?_
  refine zw_iand dJ6_bitCount_0f7a4_51 rfl ?_
  exact zw_ireturn (ty := .int) dJ6_bitCount_0f7a4_52 rfl rfl (Nat.le_refl 0) (Nat.le_refl 0) ⟨_, rfl, rfl, K⟩
