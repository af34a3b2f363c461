set_option maxRecDepth 100000 in
set_option maxHeartbeats 4000000 in
theorem rX8_in_0 {q : Int32 → zw_H → Prop} {h : zw_H} {v0 v1 v2 : Int32} (K : ((v0 < v1 → q (0 : Int32) h) ∧ (¬ v0 < v1 → ((v2 < v0 → q (0 : Int32) h) ∧ (¬ v2 < v0 → q (1 : Int32) h))))) : zwI 0 mX8_in q 0 [(0, .int v0), (1, .int v1), (2, .int v2)] [] h := by
  refine zw_iload_n 0 dX8_in_0 rfl rfl rfl ?_
  refine zw_iload_n 1 dX8_in_1 rfl rfl rfl ?_
  refine zw_icmp_lt (tg := 14) dX8_in_2 (by decide) rfl (fun c => ?_) (fun c => ?_)
  · have K := K.1 c
    refine zw_iconst (v := (0 : Int32)) dX8_in_14 (by decide) rfl ?_
    exact zw_ireturn (ty := .boolean) dX8_in_15 rfl rfl (Nat.le_refl 0) (Nat.le_refl 0) ⟨_, rfl, rfl, K⟩
  · have K := K.2 c
    refine zw_iload_n 0 dX8_in_5 rfl rfl rfl ?_
    refine zw_iload_n 2 dX8_in_6 rfl rfl rfl ?_
    refine zw_icmp_gt (tg := 14) dX8_in_7 (by decide) rfl (fun c => ?_) (fun c => ?_)
    · have K := K.1 c
      refine zw_iconst (v := (0 : Int32)) dX8_in_14 (by decide) rfl ?_
      exact zw_ireturn (ty := .boolean) dX8_in_15 rfl rfl (Nat.le_refl 0) (Nat.le_refl 0) ⟨_, rfl, rfl, K⟩
    · have K := K.2 c
      refine zw_iconst (v := (1 : Int32)) dX8_in_10 (by decide) rfl ?_
      refine zw_goto (np := 15) dX8_in_11 (by decide) ?_
      exact zw_ireturn (ty := .boolean) dX8_in_15 rfl rfl (Nat.le_refl 0) (Nat.le_refl 0) ⟨_, rfl, rfl, K⟩

set_option maxRecDepth 100000 in
set_option maxHeartbeats 4000000 in
theorem rX8_starts_0 {q : zw_H → Prop} {h : zw_H} {v1 : Int32} (K : (∀ h1 : zw_H, h1 = zw_sI h 57 0 v1 → (∀ h2 : zw_H, h2 = zw_sI h1 57 1 (126 : Int32) → (∀ h3 : zw_H, h3 = zw_sI h2 57 2 (126 : Int32) → (∀ h4 : zw_H, h4 = zw_sI h3 57 3 (0 : Int32) → (∀ h5 : zw_H, h5 = zw_sI h4 57 4 (0 : Int32) → (∀ h6 : zw_H, h6 = zw_sI h5 57 5 (0 : Int32) → zwV 5 mX8_starts q 46 [(0, .ref 56), (2, .int (0 : Int32))] [] h6))))))) : zwV 5 mX8_starts q 0 [(0, .ref 56), (1, .int v1)] [] h := by
  refine zw_aload_n 0 dX8_starts_0 rfl rfl rfl ?_
  refine zw_getR f_X8_7 dX8_starts_1 zs_56 rfl rfl ?_
  refine zw_iconst (v := (0 : Int32)) dX8_starts_4 (by decide) rfl ?_
  refine zw_iload_n 1 dX8_starts_5 rfl rfl rfl ?_
  refine zw_iast 0 dX8_starts_6 zs_57 ⟨by decide, by decide⟩ (by decide) rfl ?_
  generalize e1 : zw_sI h 57 0 v1 = h1
  have K := K h1 e1.symm
  refine zw_aload_n 0 dX8_starts_7 rfl rfl rfl ?_
  refine zw_getR f_X8_7 dX8_starts_8 zs_56 rfl rfl ?_
  refine zw_iconst (v := (1 : Int32)) dX8_starts_11 (by decide) rfl ?_
  refine zw_bipush (v := (126 : Int32)) dX8_starts_12 (by decide) rfl ?_
  refine zw_iast 1 dX8_starts_14 zs_57 ⟨by decide, by decide⟩ (by decide) rfl ?_
  generalize e2 : zw_sI h1 57 1 (126 : Int32) = h2
  have K := K h2 e2.symm
  refine zw_aload_n 0 dX8_starts_15 rfl rfl rfl ?_
  refine zw_getR f_X8_7 dX8_starts_16 zs_56 rfl rfl ?_
  refine zw_iconst (v := (2 : Int32)) dX8_starts_19 (by decide) rfl ?_
  refine zw_bipush (v := (126 : Int32)) dX8_starts_20 (by decide) rfl ?_
  refine zw_iast 2 dX8_starts_22 zs_57 ⟨by decide, by decide⟩ (by decide) rfl ?_
  generalize e3 : zw_sI h2 57 2 (126 : Int32) = h3
  have K := K h3 e3.symm
  refine zw_aload_n 0 dX8_starts_23 rfl rfl rfl ?_
  refine zw_getR f_X8_7 dX8_starts_24 zs_56 rfl rfl ?_
  refine zw_iconst (v := (3 : Int32)) dX8_starts_27 (by decide) rfl ?_
  refine zw_iconst (v := (0 : Int32)) dX8_starts_28 (by decide) rfl ?_
  refine zw_iast 3 dX8_starts_29 zs_57 ⟨by decide, by decide⟩ (by decide) rfl ?_
  generalize e4 : zw_sI h3 57 3 (0 : Int32) = h4
  have K := K h4 e4.symm
  refine zw_aload_n 0 dX8_starts_30 rfl rfl rfl ?_
  refine zw_getR f_X8_7 dX8_starts_31 zs_56 rfl rfl ?_
  refine zw_iconst (v := (4 : Int32)) dX8_starts_34 (by decide) rfl ?_
  refine zw_iconst (v := (0 : Int32)) dX8_starts_35 (by decide) rfl ?_
  refine zw_iast 4 dX8_starts_36 zs_57 ⟨by decide, by decide⟩ (by decide) rfl ?_
  generalize e5 : zw_sI h4 57 4 (0 : Int32) = h5
  have K := K h5 e5.symm
  refine zw_aload_n 0 dX8_starts_37 rfl rfl rfl ?_
  refine zw_getR f_X8_7 dX8_starts_38 zs_56 rfl rfl ?_
  refine zw_iconst (v := (5 : Int32)) dX8_starts_41 (by decide) rfl ?_
  refine zw_iconst (v := (0 : Int32)) dX8_starts_42 (by decide) rfl ?_
  refine zw_iast 5 dX8_starts_43 zs_57 ⟨by decide, by decide⟩ (by decide) rfl ?_
  generalize e6 : zw_sI h5 57 5 (0 : Int32) = h6
  have K := K h6 e6.symm
  refine zw_iconst (v := (0 : Int32)) dX8_starts_44 (by decide) rfl ?_
  refine zw_istore_n dX8_starts_45 rfl (by decide) rfl rfl ?_
  exact zw.sub [1, 0] rfl K

set_option maxRecDepth 100000 in
set_option maxHeartbeats 4000000 in
theorem rX8_starts_46 {q : zw_H → Prop} {h : zw_H} {v2 : Int32} (K : (((8 : Int32) ≤ v2 → (∃ q1 : zw_H → Prop, zcV 1 mX8_lays [.ref 56] h q1 ∧ (∀ h1 : zw_H, q1 h1 → (∃ q2 : zw_H → Prop, zcV 4 mX8_admits [.ref 56] h1 q2 ∧ (∀ h2 : zw_H, q2 h2 → q h2))))) ∧ (¬ (8 : Int32) ≤ v2 → (∃ j3 : Nat, ((6 : Int32) + v2) = nI j3 ∧ j3 < 154 ∧ ∀ h4 : zw_H, h4 = zw_sI h 57 j3 (-9 : Int32) → zwV 5 mX8_starts q 46 [(0, .ref 56), (2, .int (v2 + (1 : Int32)))] [] h4)))) : zwV 5 mX8_starts q 46 [(0, .ref 56), (2, .int v2)] [] h := by
  refine zw_iload_n 1 dX8_starts_46 rfl rfl rfl ?_
  refine zw_bipush (v := (8 : Int32)) dX8_starts_47 (by decide) rfl ?_
  refine zw_icmp_ge (tg := 69) dX8_starts_49 (by decide) rfl (fun c => ?_) (fun c => ?_)
  · have K := K.1 c
    refine zw_aload_n 0 dX8_starts_69 rfl rfl rfl ?_
    obtain ⟨q1, ct, K⟩ := K
    refine zw_callV (n := 0) (As := []) (rest := []) ct my_X8_lays rfl rfl k_X8_42 i_X8_lays s_X8_lays zs_56 rfl dX8_starts_70 (by decide) (Nat.le_of_ble_eq_true rfl) (Nat.le_refl 0) (Nat.le_refl 0) rfl (fun r s1 h1 hq => ?_)
    obtain ⟨rfl, rfl, hq⟩ := hq
    have K := K h1 hq
    refine zw.st (st' := []) rfl ?_
    refine zw_aload_n 0 dX8_starts_73 rfl rfl rfl ?_
    obtain ⟨q2, ct, K⟩ := K
    refine zw_callV (n := 0) (As := []) (rest := []) ct my_X8_admits rfl rfl k_X8_45 i_X8_admits s_X8_admits zs_56 rfl dX8_starts_74 (by decide) (Nat.le_of_ble_eq_true rfl) (Nat.le_refl 0) (Nat.le_refl 0) rfl (fun r s1 h2 hq => ?_)
    obtain ⟨rfl, rfl, hq⟩ := hq
    have K := K h2 hq
    refine zw.st (st' := []) rfl ?_
    exact zw_return dX8_starts_77 rfl (Nat.le_refl 0) (Nat.le_refl 0) ⟨rfl, rfl, K⟩
  · have K := K.2 c
    refine zw_aload_n 0 dX8_starts_52 rfl rfl rfl ?_
    refine zw_getR f_X8_7 dX8_starts_53 zs_56 rfl rfl ?_
    refine zw_bipush (v := (6 : Int32)) dX8_starts_56 (by decide) rfl ?_
    refine zw_iload_n 1 dX8_starts_58 rfl rfl rfl ?_
    refine zw_iadd dX8_starts_59 rfl ?_
    refine zw_bipush (v := (-9 : Int32)) dX8_starts_60 (by decide) rfl ?_
    obtain ⟨j3, hj3, hn3, K⟩ := K
    refine zw_iast j3 dX8_starts_62 zs_57 ⟨hj3, hn3⟩ (by decide) rfl ?_
    generalize e4 : zw_sI h 57 j3 (-9 : Int32) = h4
    have K := K h4 e4.symm
    refine zw_iinc (v := (v2 + (1 : Int32))) 1 dX8_starts_63 rfl rfl (by decide) rfl rfl ?_
    refine zw_goto (np := 46) dX8_starts_66 (by decide) ?_
    exact zw.sub [1, 0] rfl K

set_option maxRecDepth 100000 in
set_option maxHeartbeats 4000000 in
theorem rX8_begins_0 {q : zw_H → Prop} {h : zw_H} (K : ((¬ (h.1 56 1) = (10 : Int32) → (∀ h1 : zw_H, h1 = zw_sI h 56 1 ((h.1 56 1) + (1 : Int32)) → zwV 0 mX8_begins q 63 [(0, .ref 56), (1, .int (0 : Int32))] [] h1)) ∧ ((h.1 56 1) = (10 : Int32) → zwV 0 mX8_begins q 11 [(0, .ref 56), (1, .int (0 : Int32))] [] h))) : zwV 0 mX8_begins q 0 [(0, .ref 56)] [] h := by
  refine zw_aload_n 0 dX8_begins_0 rfl rfl rfl ?_
  refine zw_getI f_X8_48 dX8_begins_1 zs_56 rfl rfl ?_
  refine zw_bipush (v := (10 : Int32)) dX8_begins_4 (by decide) rfl ?_
  refine zw_icmp_ne (tg := 51) dX8_begins_6 (by decide) rfl (fun c => ?_) (fun c => ?_)
  · have K := K.1 c
    refine zw_aload_n 0 dX8_begins_51 rfl rfl rfl ?_
    refine zw_dup dX8_begins_52 rfl rfl ?_
    refine zw_getI f_X8_48 dX8_begins_53 zs_56 rfl rfl ?_
    refine zw_iconst (v := (1 : Int32)) dX8_begins_56 (by decide) rfl ?_
    refine zw_iadd dX8_begins_57 rfl ?_
    refine zw_putI f_X8_48 cl_X8 rfl ⟨rfl, rfl⟩ dX8_begins_58 zs_56 rfl rfl ?_
    generalize e1 : zw_sI h 56 1 ((h.1 56 1) + (1 : Int32)) = h1
    have K := K h1 e1.symm
    refine zw_iconst (v := (0 : Int32)) dX8_begins_61 (by decide) rfl ?_
    refine zw_istore_n dX8_begins_62 rfl (by decide) rfl rfl ?_
    exact zw.sub [1, 0] rfl K
  · have K := K.2 c
    refine zw_iconst (v := (0 : Int32)) dX8_begins_9 (by decide) rfl ?_
    refine zw_istore_n dX8_begins_10 rfl (by decide) rfl rfl ?_
    exact zw.sub [1, 0] rfl K

set_option maxRecDepth 100000 in
set_option maxHeartbeats 4000000 in
theorem rX8_begins_11 {q : zw_H → Prop} {h : zw_H} {v1 : Int32} (K : (((126 : Int32) ≤ v1 → (∀ h1 : zw_H, h1 = zw_sI h 56 1 ((h.1 56 1) - (1 : Int32)) → (∀ h2 : zw_H, h2 = zw_sI h1 56 1 ((h1.1 56 1) + (1 : Int32)) → zwV 0 mX8_begins q 63 [(0, .ref 56), (1, .int (0 : Int32))] [] h2))) ∧ (¬ (126 : Int32) ≤ v1 → (∃ j3 : Nat, ((28 : Int32) + v1) = nI j3 ∧ j3 < 154 ∧ (∃ j4 : Nat, ((14 : Int32) + v1) = nI j4 ∧ j4 < 154 ∧ ∀ h5 : zw_H, h5 = zw_sI h 57 j4 (h.1 57 j3) → zwV 0 mX8_begins q 11 [(0, .ref 56), (1, .int (v1 + (1 : Int32)))] [] h5))))) : zwV 0 mX8_begins q 11 [(0, .ref 56), (1, .int v1)] [] h := by
  refine zw_iload_n 1 dX8_begins_11 rfl rfl rfl ?_
  refine zw_bipush (v := (126 : Int32)) dX8_begins_12 (by decide) rfl ?_
  refine zw_icmp_ge (tg := 41) dX8_begins_14 (by decide) rfl (fun c => ?_) (fun c => ?_)
  · have K := K.1 c
    refine zw_aload_n 0 dX8_begins_41 rfl rfl rfl ?_
    refine zw_dup dX8_begins_42 rfl rfl ?_
    refine zw_getI f_X8_48 dX8_begins_43 zs_56 rfl rfl ?_
    refine zw_iconst (v := (1 : Int32)) dX8_begins_46 (by decide) rfl ?_
    refine zw_isub dX8_begins_47 rfl ?_
    refine zw_putI f_X8_48 cl_X8 rfl ⟨rfl, rfl⟩ dX8_begins_48 zs_56 rfl rfl ?_
    generalize e1 : zw_sI h 56 1 ((h.1 56 1) - (1 : Int32)) = h1
    have K := K h1 e1.symm
    refine zw_aload_n 0 dX8_begins_51 rfl rfl rfl ?_
    refine zw_dup dX8_begins_52 rfl rfl ?_
    refine zw_getI f_X8_48 dX8_begins_53 zs_56 rfl rfl ?_
    refine zw_iconst (v := (1 : Int32)) dX8_begins_56 (by decide) rfl ?_
    refine zw_iadd dX8_begins_57 rfl ?_
    refine zw_putI f_X8_48 cl_X8 rfl ⟨rfl, rfl⟩ dX8_begins_58 zs_56 rfl rfl ?_
    generalize e2 : zw_sI h1 56 1 ((h1.1 56 1) + (1 : Int32)) = h2
    have K := K h2 e2.symm
    refine zw_iconst (v := (0 : Int32)) dX8_begins_61 (by decide) rfl ?_
    refine zw_istore_n dX8_begins_62 rfl (by decide) rfl rfl ?_
    exact zw.sub [1, 0] rfl K
  · have K := K.2 c
    refine zw_aload_n 0 dX8_begins_17 rfl rfl rfl ?_
    refine zw_getR f_X8_7 dX8_begins_18 zs_56 rfl rfl ?_
    refine zw_bipush (v := (14 : Int32)) dX8_begins_21 (by decide) rfl ?_
    refine zw_iload_n 1 dX8_begins_23 rfl rfl rfl ?_
    refine zw_iadd dX8_begins_24 rfl ?_
    refine zw_aload_n 0 dX8_begins_25 rfl rfl rfl ?_
    refine zw_getR f_X8_7 dX8_begins_26 zs_56 rfl rfl ?_
    refine zw_bipush (v := (28 : Int32)) dX8_begins_29 (by decide) rfl ?_
    refine zw_iload_n 1 dX8_begins_31 rfl rfl rfl ?_
    refine zw_iadd dX8_begins_32 rfl ?_
    obtain ⟨j3, hj3, hn3, K⟩ := K
    refine zw_iald j3 dX8_begins_33 zs_57 ⟨hj3, hn3⟩ (by decide) rfl ?_
    obtain ⟨j4, hj4, hn4, K⟩ := K
    refine zw_iast j4 dX8_begins_34 zs_57 ⟨hj4, hn4⟩ (by decide) rfl ?_
    generalize e5 : zw_sI h 57 j4 (h.1 57 j3) = h5
    have K := K h5 e5.symm
    refine zw_iinc (v := (v1 + (1 : Int32))) 1 dX8_begins_35 rfl rfl (by decide) rfl rfl ?_
    refine zw_goto (np := 11) dX8_begins_38 (by decide) ?_
    exact zw.sub [1, 0] rfl K

set_option maxRecDepth 100000 in
set_option maxHeartbeats 4000000 in
theorem rX8_begins_63 {q : zw_H → Prop} {h : zw_H} {v1 : Int32} (K : (((14 : Int32) ≤ v1 → q h) ∧ (¬ (14 : Int32) ≤ v1 → (∃ j1 : Nat, v1 = nI j1 ∧ j1 < 154 ∧ (∃ j2 : Nat, (((14 : Int32) * (h.1 56 1)) + v1) = nI j2 ∧ j2 < 154 ∧ ∀ h3 : zw_H, h3 = zw_sI h 57 j2 (h.1 57 j1) → zwV 0 mX8_begins q 63 [(0, .ref 56), (1, .int (v1 + (1 : Int32)))] [] h3))))) : zwV 0 mX8_begins q 63 [(0, .ref 56), (1, .int v1)] [] h := by
  refine zw_iload_n 1 dX8_begins_63 rfl rfl rfl ?_
  refine zw_bipush (v := (14 : Int32)) dX8_begins_64 (by decide) rfl ?_
  refine zw_icmp_ge (tg := 95) dX8_begins_66 (by decide) rfl (fun c => ?_) (fun c => ?_)
  · have K := K.1 c
    exact zw_return dX8_begins_95 rfl (Nat.le_refl 0) (Nat.le_refl 0) ⟨rfl, rfl, K⟩
  · have K := K.2 c
    refine zw_aload_n 0 dX8_begins_69 rfl rfl rfl ?_
    refine zw_getR f_X8_7 dX8_begins_70 zs_56 rfl rfl ?_
    refine zw_bipush (v := (14 : Int32)) dX8_begins_73 (by decide) rfl ?_
    refine zw_aload_n 0 dX8_begins_75 rfl rfl rfl ?_
    refine zw_getI f_X8_48 dX8_begins_76 zs_56 rfl rfl ?_
    refine zw_imul dX8_begins_79 rfl ?_
    refine zw_iload_n 1 dX8_begins_80 rfl rfl rfl ?_
    refine zw_iadd dX8_begins_81 rfl ?_
    refine zw_aload_n 0 dX8_begins_82 rfl rfl rfl ?_
    refine zw_getR f_X8_7 dX8_begins_83 zs_56 rfl rfl ?_
    refine zw_iload_n 1 dX8_begins_86 rfl rfl rfl ?_
    obtain ⟨j1, hj1, hn1, K⟩ := K
    refine zw_iald j1 dX8_begins_87 zs_57 ⟨hj1, hn1⟩ (by decide) rfl ?_
    obtain ⟨j2, hj2, hn2, K⟩ := K
    refine zw_iast j2 dX8_begins_88 zs_57 ⟨hj2, hn2⟩ (by decide) rfl ?_
    generalize e3 : zw_sI h 57 j2 (h.1 57 j1) = h3
    have K := K h3 e3.symm
    refine zw_iinc (v := (v1 + (1 : Int32))) 1 dX8_begins_89 rfl rfl (by decide) rfl rfl ?_
    refine zw_goto (np := 63) dX8_begins_92 (by decide) ?_
    exact zw.sub [1, 0] rfl K

set_option maxRecDepth 100000 in
set_option maxHeartbeats 4000000 in
theorem rX8_at_0 {q : Int32 → zw_H → Prop} {h : zw_H} {v1 v2 : Int32} (K : (∃ j1 : Nat, (((6 : Int32) * v1) + v2) = nI j1 ∧ j1 < 1218 ∧ q (h.1 59 j1) h)) : zwI 0 mX8_at q 0 [(0, .ref 56), (1, .int v1), (2, .int v2)] [] h := by
  refine zw_aload_n 0 dX8_at_0 rfl rfl rfl ?_
  refine zw_getR f_X8_16 dX8_at_1 zs_56 rfl rfl ?_
  refine zw_bipush (v := (6 : Int32)) dX8_at_4 (by decide) rfl ?_
  refine zw_iload_n 1 dX8_at_6 rfl rfl rfl ?_
  refine zw_imul dX8_at_7 rfl ?_
  refine zw_iload_n 2 dX8_at_8 rfl rfl rfl ?_
  refine zw_iadd dX8_at_9 rfl ?_
  obtain ⟨j1, hj1, hn1, K⟩ := K
  refine zw_iald j1 dX8_at_10 zs_59 ⟨hj1, hn1⟩ (by decide) rfl ?_
  exact zw_ireturn (ty := .int) dX8_at_11 rfl rfl (Nat.le_refl 0) (Nat.le_refl 0) ⟨_, rfl, rfl, K⟩

set_option maxRecDepth 100000 in
set_option maxHeartbeats 4000000 in
theorem rX8_greatest_0 {q : Int32 → zw_H → Prop} {h : zw_H} {v1 : Int32} (K : zwI 0 mX8_greatest q 4 [(0, .ref 56), (1, .int v1), (2, .int (-1 : Int32)), (3, .int (0 : Int32))] [] h) : zwI 0 mX8_greatest q 0 [(0, .ref 56), (1, .int v1)] [] h := by
  refine zw_iconst (v := (-1 : Int32)) dX8_greatest_0 (by decide) rfl ?_
  refine zw_istore_n dX8_greatest_1 rfl (by decide) rfl rfl ?_
  refine zw_iconst (v := (0 : Int32)) dX8_greatest_2 (by decide) rfl ?_
  refine zw_istore_n dX8_greatest_3 rfl (by decide) rfl rfl ?_
  exact zw.sub [2, 3, 1, 0] rfl K

set_option maxRecDepth 100000 in
set_option maxHeartbeats 4000000 in
theorem rX8_greatest_4 {q : Int32 → zw_H → Prop} {h : zw_H} {v1 v2 v3 : Int32} (K : ((v1 ≤ v3 → q v2 h) ∧ (¬ v1 ≤ v3 → (∃ j1 : Nat, v3 = nI j1 ∧ j1 < 6 ∧ (((h.1 62 j1) ≤ v2 → zwI 0 mX8_greatest q 4 [(0, .ref 56), (1, .int v1), (2, .int v2), (3, .int (v3 + (1 : Int32)))] [] h) ∧ (¬ (h.1 62 j1) ≤ v2 → (∃ j2 : Nat, v3 = nI j2 ∧ j2 < 6 ∧ zwI 0 mX8_greatest q 4 [(0, .ref 56), (1, .int v1), (2, .int (h.1 62 j2)), (3, .int (v3 + (1 : Int32)))] [] h))))))) : zwI 0 mX8_greatest q 4 [(0, .ref 56), (1, .int v1), (2, .int v2), (3, .int v3)] [] h := by
  refine zw_iload_n 3 dX8_greatest_4 rfl rfl rfl ?_
  refine zw_iload_n 1 dX8_greatest_5 rfl rfl rfl ?_
  refine zw_icmp_ge (tg := 36) dX8_greatest_6 (by decide) rfl (fun c => ?_) (fun c => ?_)
  · have K := K.1 c
    refine zw_iload_n 2 dX8_greatest_36 rfl rfl rfl ?_
    exact zw_ireturn (ty := .int) dX8_greatest_37 rfl rfl (Nat.le_refl 0) (Nat.le_refl 0) ⟨_, rfl, rfl, K⟩
  · have K := K.2 c
    refine zw_aload_n 0 dX8_greatest_9 rfl rfl rfl ?_
    refine zw_getR f_X8_25 dX8_greatest_10 zs_56 rfl rfl ?_
    refine zw_iload_n 3 dX8_greatest_13 rfl rfl rfl ?_
    obtain ⟨j1, hj1, hn1, K⟩ := K
    refine zw_iald j1 dX8_greatest_14 zs_62 ⟨hj1, hn1⟩ (by decide) rfl ?_
    refine zw_iload_n 2 dX8_greatest_15 rfl rfl rfl ?_
    refine zw_icmp_le (tg := 28) dX8_greatest_16 (by decide) rfl (fun c => ?_) (fun c => ?_)
    · have K := K.1 c
      refine zw_iload_n 2 dX8_greatest_28 rfl rfl rfl ?_
      refine zw_istore_n dX8_greatest_29 rfl (by decide) rfl rfl ?_
      refine zw_iinc (v := (v3 + (1 : Int32))) 3 dX8_greatest_30 rfl rfl (by decide) rfl rfl ?_
      refine zw_goto (np := 4) dX8_greatest_33 (by decide) ?_
      exact zw.sub [2, 3, 1, 0] rfl K
    · have K := K.2 c
      refine zw_aload_n 0 dX8_greatest_19 rfl rfl rfl ?_
      refine zw_getR f_X8_25 dX8_greatest_20 zs_56 rfl rfl ?_
      refine zw_iload_n 3 dX8_greatest_23 rfl rfl rfl ?_
      obtain ⟨j2, hj2, hn2, K⟩ := K
      refine zw_iald j2 dX8_greatest_24 zs_62 ⟨hj2, hn2⟩ (by decide) rfl ?_
      refine zw_goto (np := 29) dX8_greatest_25 (by decide) ?_
      refine zw_istore_n dX8_greatest_29 rfl (by decide) rfl rfl ?_
      refine zw_iinc (v := (v3 + (1 : Int32))) 3 dX8_greatest_30 rfl rfl (by decide) rfl rfl ?_
      refine zw_goto (np := 4) dX8_greatest_33 (by decide) ?_
      exact zw.sub [2, 3, 1, 0] rfl K

set_option maxRecDepth 100000 in
set_option maxHeartbeats 4000000 in
theorem rX8_lays_0 {q : zw_H → Prop} {h : zw_H} (K : (∀ h1 : zw_H, h1 = zw_sI h 56 7 (0 : Int32) → zwV 1 mX8_lays q 14 [(0, .ref 56), (1, .int (h.1 57 0)), (2, .int (0 : Int32))] [] h1)) : zwV 1 mX8_lays q 0 [(0, .ref 56)] [] h := by
  refine zw_aload_n 0 dX8_lays_0 rfl rfl rfl ?_
  refine zw_getR f_X8_7 dX8_lays_1 zs_56 rfl rfl ?_
  refine zw_iconst (v := (0 : Int32)) dX8_lays_4 (by decide) rfl ?_
  refine zw_iald 0 dX8_lays_5 zs_57 ⟨by decide, by decide⟩ (by decide) rfl ?_
  refine zw_istore_n dX8_lays_6 rfl (by decide) rfl rfl ?_
  refine zw_aload_n 1 dX8_lays_7 rfl rfl rfl ?_
  refine zw_iconst (v := (0 : Int32)) dX8_lays_8 (by decide) rfl ?_
  refine zw_putI f_X8_52 cl_X8 rfl ⟨rfl, rfl⟩ dX8_lays_9 zs_56 rfl rfl ?_
  generalize e1 : zw_sI h 56 7 (0 : Int32) = h1
  have K := K h1 e1.symm
  refine zw_iconst (v := (0 : Int32)) dX8_lays_12 (by decide) rfl ?_
  refine zw_istore_n dX8_lays_13 rfl (by decide) rfl rfl ?_
  exact zw.sub [2, 1, 0] rfl K

set_option maxRecDepth 100000 in
set_option maxHeartbeats 4000000 in
theorem rX8_lays_14 {q : zw_H → Prop} {h : zw_H} {v1 v2 : Int32} (K : (((6 : Int32) ≤ v2 → zwV 1 mX8_lays q 35 [(0, .ref 56), (1, .int v1), (2, .int (1 : Int32))] [] h) ∧ (¬ (6 : Int32) ≤ v2 → (∃ j1 : Nat, v2 = nI j1 ∧ j1 < 6 ∧ ∀ h2 : zw_H, h2 = zw_sI h 62 j1 (0 : Int32) → zwV 1 mX8_lays q 14 [(0, .ref 56), (1, .int v1), (2, .int (v2 + (1 : Int32)))] [] h2)))) : zwV 1 mX8_lays q 14 [(0, .ref 56), (1, .int v1), (2, .int v2)] [] h := by
  refine zw_iload_n 2 dX8_lays_14 rfl rfl rfl ?_
  refine zw_bipush (v := (6 : Int32)) dX8_lays_15 (by decide) rfl ?_
  refine zw_icmp_ge (tg := 33) dX8_lays_17 (by decide) rfl (fun c => ?_) (fun c => ?_)
  · have K := K.1 c
    refine zw_iconst (v := (1 : Int32)) dX8_lays_33 (by decide) rfl ?_
    refine zw_istore_n dX8_lays_34 rfl (by decide) rfl rfl ?_
    exact zw.sub [1, 2, 0] rfl K
  · have K := K.2 c
    refine zw_aload_n 0 dX8_lays_20 rfl rfl rfl ?_
    refine zw_getR f_X8_25 dX8_lays_21 zs_56 rfl rfl ?_
    refine zw_iload_n 2 dX8_lays_24 rfl rfl rfl ?_
    refine zw_iconst (v := (0 : Int32)) dX8_lays_25 (by decide) rfl ?_
    obtain ⟨j1, hj1, hn1, K⟩ := K
    refine zw_iast j1 dX8_lays_26 zs_62 ⟨hj1, hn1⟩ (by decide) rfl ?_
    generalize e2 : zw_sI h 62 j1 (0 : Int32) = h2
    have K := K h2 e2.symm
    refine zw_iinc (v := (v2 + (1 : Int32))) 2 dX8_lays_27 rfl rfl (by decide) rfl rfl ?_
    refine zw_goto (np := 14) dX8_lays_30 (by decide) ?_
    exact zw.sub [1, 2, 0] rfl K

set_option maxRecDepth 100000 in
set_option maxHeartbeats 4000000 in
theorem rX8_lays_35 {q : zw_H → Prop} {h : zw_H} {v1 v2 : Int32} (K : ((v2 = 0 → q h) ∧ (¬ v2 = 0 → zwV 1 mX8_lays q 41 [(0, .ref 56), (1, .int v1), (3, .int (0 : Int32))] [] h))) : zwV 1 mX8_lays q 35 [(0, .ref 56), (1, .int v1), (2, .int v2)] [] h := by
  refine zw_iload_n 2 dX8_lays_35 rfl rfl rfl ?_
  refine zw_if_eq (tg := 178) dX8_lays_36 (by decide) rfl (fun c => ?_) (fun c => ?_)
  · have K := K.1 c
    exact zw_return dX8_lays_178 rfl (Nat.le_refl 0) (Nat.le_refl 0) ⟨rfl, rfl, K⟩
  · have K := K.2 c
    refine zw_iconst (v := (0 : Int32)) dX8_lays_39 (by decide) rfl ?_
    refine zw_istore_n dX8_lays_40 rfl (by decide) rfl rfl ?_
    exact zw.sub [1, 2, 0] rfl K

set_option maxRecDepth 100000 in
set_option maxHeartbeats 4000000 in
theorem rX8_lays_41 {q : zw_H → Prop} {h : zw_H} {v1 v3 : Int32} (K : ((v1 ≤ v3 → (∃ q1 : Int32 → zw_H → Prop, zcI 0 mX8_greatest [.ref 56, .int v1] h q1 ∧ (∀ (x1 : Int32) (h1 : zw_H), q1 x1 h1 → (∃ j2 : Nat, (h.1 56 7) = nI j2 ∧ j2 < 203 ∧ ∀ h3 : zw_H, h3 = zw_sI h1 60 j2 (x1 + (1 : Int32)) → (∀ h4 : zw_H, h4 = zw_sI h3 56 7 ((h3.1 56 7) + (1 : Int32)) → zwV 1 mX8_lays q 102 [(0, .ref 56), (1, .int v1), (3, .int (v1 - (1 : Int32)))] [] h4))))) ∧ (¬ v1 ≤ v3 → (∃ j5 : Nat, v3 = nI j5 ∧ j5 < 6 ∧ (∃ j6 : Nat, (((6 : Int32) * (h.1 56 7)) + v3) = nI j6 ∧ j6 < 1218 ∧ ∀ h7 : zw_H, h7 = zw_sI h 59 j6 (h.1 62 j5) → zwV 1 mX8_lays q 41 [(0, .ref 56), (1, .int v1), (3, .int (v3 + (1 : Int32)))] [] h7))))) : zwV 1 mX8_lays q 41 [(0, .ref 56), (1, .int v1), (3, .int v3)] [] h := by
  refine zw_iload_n 2 dX8_lays_41 rfl rfl rfl ?_
  refine zw_iload_n 1 dX8_lays_42 rfl rfl rfl ?_
  refine zw_icmp_ge (tg := 72) dX8_lays_43 (by decide) rfl (fun c => ?_) (fun c => ?_)
  · have K := K.1 c
    refine zw_aload_n 0 dX8_lays_72 rfl rfl rfl ?_
    refine zw_getR f_X8_19 dX8_lays_73 zs_56 rfl rfl ?_
    refine zw_aload_n 0 dX8_lays_76 rfl rfl rfl ?_
    refine zw_getI f_X8_52 dX8_lays_77 zs_56 rfl rfl ?_
    refine zw_aload_n 0 dX8_lays_80 rfl rfl rfl ?_
    refine zw_iload_n 1 dX8_lays_81 rfl rfl rfl ?_
    obtain ⟨q1, ct, K⟩ := K
    refine zw_callV (n := 1) (As := [.int v1]) (rest := [.int (h.1 56 7), .ref 60]) ct my_X8_greatest rfl rfl k_X8_55 i_X8_greatest s_X8_greatest zs_56 rfl dX8_lays_82 (by decide) (Nat.le_of_ble_eq_true rfl) (Nat.le_refl 0) (Nat.le_refl 0) rfl (fun r s1 h1 hq => ?_)
    obtain ⟨x1, rfl, rfl, hq⟩ := hq
    have K := K x1 h1 hq
    refine zw.st (st' := [.int x1, .int (h.1 56 7), .ref 60]) rfl ?_
    refine zw_iconst (v := (1 : Int32)) dX8_lays_85 (by decide) rfl ?_
    refine zw_iadd dX8_lays_86 rfl ?_
    obtain ⟨j2, hj2, hn2, K⟩ := K
    refine zw_iast j2 dX8_lays_87 zs_60 ⟨hj2, hn2⟩ (by decide) rfl ?_
    generalize e3 : zw_sI h1 60 j2 (x1 + (1 : Int32)) = h3
    have K := K h3 e3.symm
    refine zw_aload_n 0 dX8_lays_88 rfl rfl rfl ?_
    refine zw_dup dX8_lays_89 rfl rfl ?_
    refine zw_getI f_X8_52 dX8_lays_90 zs_56 rfl rfl ?_
    refine zw_iconst (v := (1 : Int32)) dX8_lays_93 (by decide) rfl ?_
    refine zw_iadd dX8_lays_94 rfl ?_
    refine zw_putI f_X8_52 cl_X8 rfl ⟨rfl, rfl⟩ dX8_lays_95 zs_56 rfl rfl ?_
    generalize e4 : zw_sI h3 56 7 ((h3.1 56 7) + (1 : Int32)) = h4
    have K := K h4 e4.symm
    refine zw_iload_n 1 dX8_lays_98 rfl rfl rfl ?_
    refine zw_iconst (v := (1 : Int32)) dX8_lays_99 (by decide) rfl ?_
    refine zw_isub dX8_lays_100 rfl ?_
    refine zw_istore_n dX8_lays_101 rfl (by decide) rfl rfl ?_
    exact zw.sub [1, 2, 0] rfl K
  · have K := K.2 c
    refine zw_aload_n 0 dX8_lays_46 rfl rfl rfl ?_
    refine zw_getR f_X8_16 dX8_lays_47 zs_56 rfl rfl ?_
    refine zw_bipush (v := (6 : Int32)) dX8_lays_50 (by decide) rfl ?_
    refine zw_aload_n 0 dX8_lays_52 rfl rfl rfl ?_
    refine zw_getI f_X8_52 dX8_lays_53 zs_56 rfl rfl ?_
    refine zw_imul dX8_lays_56 rfl ?_
    refine zw_iload_n 2 dX8_lays_57 rfl rfl rfl ?_
    refine zw_iadd dX8_lays_58 rfl ?_
    refine zw_aload_n 0 dX8_lays_59 rfl rfl rfl ?_
    refine zw_getR f_X8_25 dX8_lays_60 zs_56 rfl rfl ?_
    refine zw_iload_n 2 dX8_lays_63 rfl rfl rfl ?_
    obtain ⟨j5, hj5, hn5, K⟩ := K
    refine zw_iald j5 dX8_lays_64 zs_62 ⟨hj5, hn5⟩ (by decide) rfl ?_
    obtain ⟨j6, hj6, hn6, K⟩ := K
    refine zw_iast j6 dX8_lays_65 zs_59 ⟨hj6, hn6⟩ (by decide) rfl ?_
    generalize e7 : zw_sI h 59 j6 (h.1 62 j5) = h7
    have K := K h7 e7.symm
    refine zw_iinc (v := (v3 + (1 : Int32))) 2 dX8_lays_66 rfl rfl (by decide) rfl rfl ?_
    refine zw_goto (np := 41) dX8_lays_69 (by decide) ?_
    exact zw.sub [1, 2, 0] rfl K

set_option maxRecDepth 100000 in
set_option maxHeartbeats 4000000 in
theorem rX8_lays_102 {q : zw_H → Prop} {h : zw_H} {v1 v3 : Int32} (K : ((v3 ≤ 0 → ((v3 ≤ 0 → (((0 : Int32) = 0 → zwV 1 mX8_lays q 35 [(0, .ref 56), (1, .int v1), (2, .int (0 : Int32))] [] h) ∧ (¬ (0 : Int32) = 0 → (∃ j1 : Nat, v3 = nI j1 ∧ j1 < 6 ∧ (∃ j2 : Nat, v3 = nI j2 ∧ j2 < 6 ∧ ∀ h3 : zw_H, h3 = zw_sI h 62 j2 ((h.1 62 j1) + (1 : Int32)) → zwV 1 mX8_lays q 155 [(0, .ref 56), (1, .int v1), (2, .int (0 : Int32)), (4, .int (v3 + (1 : Int32)))] [] h3))))) ∧ (¬ v3 ≤ 0 → (((1 : Int32) = 0 → zwV 1 mX8_lays q 35 [(0, .ref 56), (1, .int v1), (2, .int (1 : Int32))] [] h) ∧ (¬ (1 : Int32) = 0 → (∃ j4 : Nat, v3 = nI j4 ∧ j4 < 6 ∧ (∃ j5 : Nat, v3 = nI j5 ∧ j5 < 6 ∧ ∀ h6 : zw_H, h6 = zw_sI h 62 j5 ((h.1 62 j4) + (1 : Int32)) → zwV 1 mX8_lays q 155 [(0, .ref 56), (1, .int v1), (2, .int (1 : Int32)), (4, .int (v3 + (1 : Int32)))] [] h6))))))) ∧ (¬ v3 ≤ 0 → (∃ j7 : Nat, v3 = nI j7 ∧ j7 < 6 ∧ (∃ q8 : Int32 → zw_H → Prop, zcI 0 mX8_greatest [.ref 56, .int v3] h q8 ∧ (∀ (x8 : Int32) (h8 : zw_H), q8 x8 h8 → (((h.1 62 j7) ≤ x8 → ((v3 ≤ 0 → (((0 : Int32) = 0 → zwV 1 mX8_lays q 35 [(0, .ref 56), (1, .int v1), (2, .int (0 : Int32))] [] h8) ∧ (¬ (0 : Int32) = 0 → (∃ j9 : Nat, v3 = nI j9 ∧ j9 < 6 ∧ (∃ j10 : Nat, v3 = nI j10 ∧ j10 < 6 ∧ ∀ h11 : zw_H, h11 = zw_sI h8 62 j10 ((h8.1 62 j9) + (1 : Int32)) → zwV 1 mX8_lays q 155 [(0, .ref 56), (1, .int v1), (2, .int (0 : Int32)), (4, .int (v3 + (1 : Int32)))] [] h11))))) ∧ (¬ v3 ≤ 0 → (((1 : Int32) = 0 → zwV 1 mX8_lays q 35 [(0, .ref 56), (1, .int v1), (2, .int (1 : Int32))] [] h8) ∧ (¬ (1 : Int32) = 0 → (∃ j12 : Nat, v3 = nI j12 ∧ j12 < 6 ∧ (∃ j13 : Nat, v3 = nI j13 ∧ j13 < 6 ∧ ∀ h14 : zw_H, h14 = zw_sI h8 62 j13 ((h8.1 62 j12) + (1 : Int32)) → zwV 1 mX8_lays q 155 [(0, .ref 56), (1, .int v1), (2, .int (1 : Int32)), (4, .int (v3 + (1 : Int32)))] [] h14))))))) ∧ (¬ (h.1 62 j7) ≤ x8 → zwV 1 mX8_lays q 102 [(0, .ref 56), (1, .int v1), (3, .int (v3 + (-1 : Int32)))] [] h8)))))))) : zwV 1 mX8_lays q 102 [(0, .ref 56), (1, .int v1), (3, .int v3)] [] h := by
  refine zw_iload_n 2 dX8_lays_102 rfl rfl rfl ?_
  refine zw_if_le (tg := 126) dX8_lays_103 (by decide) rfl (fun c => ?_) (fun c => ?_)
  · have K := K.1 c
    refine zw_iload_n 2 dX8_lays_126 rfl rfl rfl ?_
    refine zw_if_le (tg := 134) dX8_lays_127 (by decide) rfl (fun c => ?_) (fun c => ?_)
    · have K := K.1 c
      refine zw_iconst (v := (0 : Int32)) dX8_lays_134 (by decide) rfl ?_
      refine zw_istore_n dX8_lays_135 rfl (by decide) rfl rfl ?_
      refine zw_iload_n 0 dX8_lays_136 rfl rfl rfl ?_
      refine zw_if_eq (tg := 175) dX8_lays_137 (by decide) rfl (fun c => ?_) (fun c => ?_)
      · have K := K.1 c
        refine zw_goto (np := 35) dX8_lays_175 (by decide) ?_
        exact zw.sub [1, 2, 0] rfl K
      · have K := K.2 c
        refine zw_aload_n 1 dX8_lays_140 rfl rfl rfl ?_
        refine zw_getR f_X8_25 dX8_lays_141 zs_56 rfl rfl ?_
        refine zw_iload_n 3 dX8_lays_144 rfl rfl rfl ?_
        refine zw_dup2 dX8_lays_145 rfl rfl rfl ?_
        obtain ⟨j1, hj1, hn1, K⟩ := K
        refine zw_iald j1 dX8_lays_146 zs_62 ⟨hj1, hn1⟩ (by decide) rfl ?_
        refine zw_iconst (v := (1 : Int32)) dX8_lays_147 (by decide) rfl ?_
        refine zw_iadd dX8_lays_148 rfl ?_
        obtain ⟨j2, hj2, hn2, K⟩ := K
        refine zw_iast j2 dX8_lays_149 zs_62 ⟨hj2, hn2⟩ (by decide) rfl ?_
        generalize e3 : zw_sI h 62 j2 ((h.1 62 j1) + (1 : Int32)) = h3
        have K := K h3 e3.symm
        refine zw_iload_n 3 dX8_lays_150 rfl rfl rfl ?_
        refine zw_iconst (v := (1 : Int32)) dX8_lays_151 (by decide) rfl ?_
        refine zw_iadd dX8_lays_152 rfl ?_
        refine zw_istore dX8_lays_153 (by decide) rfl rfl ?_
        exact zw.sub [2, 3, 1, 0] rfl K
    · have K := K.2 c
      refine zw_iconst (v := (1 : Int32)) dX8_lays_130 (by decide) rfl ?_
      refine zw_goto (np := 135) dX8_lays_131 (by decide) ?_
      refine zw_istore_n dX8_lays_135 rfl (by decide) rfl rfl ?_
      refine zw_iload_n 0 dX8_lays_136 rfl rfl rfl ?_
      refine zw_if_eq (tg := 175) dX8_lays_137 (by decide) rfl (fun c => ?_) (fun c => ?_)
      · have K := K.1 c
        refine zw_goto (np := 35) dX8_lays_175 (by decide) ?_
        exact zw.sub [1, 2, 0] rfl K
      · have K := K.2 c
        refine zw_aload_n 1 dX8_lays_140 rfl rfl rfl ?_
        refine zw_getR f_X8_25 dX8_lays_141 zs_56 rfl rfl ?_
        refine zw_iload_n 3 dX8_lays_144 rfl rfl rfl ?_
        refine zw_dup2 dX8_lays_145 rfl rfl rfl ?_
        obtain ⟨j4, hj4, hn4, K⟩ := K
        refine zw_iald j4 dX8_lays_146 zs_62 ⟨hj4, hn4⟩ (by decide) rfl ?_
        refine zw_iconst (v := (1 : Int32)) dX8_lays_147 (by decide) rfl ?_
        refine zw_iadd dX8_lays_148 rfl ?_
        obtain ⟨j5, hj5, hn5, K⟩ := K
        refine zw_iast j5 dX8_lays_149 zs_62 ⟨hj5, hn5⟩ (by decide) rfl ?_
        generalize e6 : zw_sI h 62 j5 ((h.1 62 j4) + (1 : Int32)) = h6
        have K := K h6 e6.symm
        refine zw_iload_n 3 dX8_lays_150 rfl rfl rfl ?_
        refine zw_iconst (v := (1 : Int32)) dX8_lays_151 (by decide) rfl ?_
        refine zw_iadd dX8_lays_152 rfl ?_
        refine zw_istore dX8_lays_153 (by decide) rfl rfl ?_
        exact zw.sub [2, 3, 1, 0] rfl K
  · have K := K.2 c
    refine zw_aload_n 0 dX8_lays_106 rfl rfl rfl ?_
    refine zw_getR f_X8_25 dX8_lays_107 zs_56 rfl rfl ?_
    refine zw_iload_n 2 dX8_lays_110 rfl rfl rfl ?_
    obtain ⟨j7, hj7, hn7, K⟩ := K
    refine zw_iald j7 dX8_lays_111 zs_62 ⟨hj7, hn7⟩ (by decide) rfl ?_
    refine zw_aload_n 0 dX8_lays_112 rfl rfl rfl ?_
    refine zw_iload_n 2 dX8_lays_113 rfl rfl rfl ?_
    obtain ⟨q8, ct, K⟩ := K
    refine zw_callV (n := 1) (As := [.int v3]) (rest := [.int (h.1 62 j7)]) ct my_X8_greatest rfl rfl k_X8_55 i_X8_greatest s_X8_greatest zs_56 rfl dX8_lays_114 (by decide) (Nat.le_of_ble_eq_true rfl) (Nat.le_refl 0) (Nat.le_refl 0) rfl (fun r s1 h8 hq => ?_)
    obtain ⟨x8, rfl, rfl, hq⟩ := hq
    have K := K x8 h8 hq
    refine zw.st (st' := [.int x8, .int (h.1 62 j7)]) rfl ?_
    refine zw_icmp_le (tg := 126) dX8_lays_117 (by decide) rfl (fun c => ?_) (fun c => ?_)
    · have K := K.1 c
      refine zw_iload_n 2 dX8_lays_126 rfl rfl rfl ?_
      refine zw_if_le (tg := 134) dX8_lays_127 (by decide) rfl (fun c => ?_) (fun c => ?_)
      · have K := K.1 c
        refine zw_iconst (v := (0 : Int32)) dX8_lays_134 (by decide) rfl ?_
        refine zw_istore_n dX8_lays_135 rfl (by decide) rfl rfl ?_
        refine zw_iload_n 0 dX8_lays_136 rfl rfl rfl ?_
        refine zw_if_eq (tg := 175) dX8_lays_137 (by decide) rfl (fun c => ?_) (fun c => ?_)
        · have K := K.1 c
          refine zw_goto (np := 35) dX8_lays_175 (by decide) ?_
          exact zw.sub [1, 2, 0] rfl K
        · have K := K.2 c
          refine zw_aload_n 1 dX8_lays_140 rfl rfl rfl ?_
          refine zw_getR f_X8_25 dX8_lays_141 zs_56 rfl rfl ?_
          refine zw_iload_n 3 dX8_lays_144 rfl rfl rfl ?_
          refine zw_dup2 dX8_lays_145 rfl rfl rfl ?_
          obtain ⟨j9, hj9, hn9, K⟩ := K
          refine zw_iald j9 dX8_lays_146 zs_62 ⟨hj9, hn9⟩ (by decide) rfl ?_
          refine zw_iconst (v := (1 : Int32)) dX8_lays_147 (by decide) rfl ?_
          refine zw_iadd dX8_lays_148 rfl ?_
          obtain ⟨j10, hj10, hn10, K⟩ := K
          refine zw_iast j10 dX8_lays_149 zs_62 ⟨hj10, hn10⟩ (by decide) rfl ?_
          generalize e11 : zw_sI h8 62 j10 ((h8.1 62 j9) + (1 : Int32)) = h11
          have K := K h11 e11.symm
          refine zw_iload_n 3 dX8_lays_150 rfl rfl rfl ?_
          refine zw_iconst (v := (1 : Int32)) dX8_lays_151 (by decide) rfl ?_
          refine zw_iadd dX8_lays_152 rfl ?_
          refine zw_istore dX8_lays_153 (by decide) rfl rfl ?_
          exact zw.sub [2, 3, 1, 0] rfl K
      · have K := K.2 c
        refine zw_iconst (v := (1 : Int32)) dX8_lays_130 (by decide) rfl ?_
        refine zw_goto (np := 135) dX8_lays_131 (by decide) ?_
        refine zw_istore_n dX8_lays_135 rfl (by decide) rfl rfl ?_
        refine zw_iload_n 0 dX8_lays_136 rfl rfl rfl ?_
        refine zw_if_eq (tg := 175) dX8_lays_137 (by decide) rfl (fun c => ?_) (fun c => ?_)
        · have K := K.1 c
          refine zw_goto (np := 35) dX8_lays_175 (by decide) ?_
          exact zw.sub [1, 2, 0] rfl K
        · have K := K.2 c
          refine zw_aload_n 1 dX8_lays_140 rfl rfl rfl ?_
          refine zw_getR f_X8_25 dX8_lays_141 zs_56 rfl rfl ?_
          refine zw_iload_n 3 dX8_lays_144 rfl rfl rfl ?_
          refine zw_dup2 dX8_lays_145 rfl rfl rfl ?_
          obtain ⟨j12, hj12, hn12, K⟩ := K
          refine zw_iald j12 dX8_lays_146 zs_62 ⟨hj12, hn12⟩ (by decide) rfl ?_
          refine zw_iconst (v := (1 : Int32)) dX8_lays_147 (by decide) rfl ?_
          refine zw_iadd dX8_lays_148 rfl ?_
          obtain ⟨j13, hj13, hn13, K⟩ := K
          refine zw_iast j13 dX8_lays_149 zs_62 ⟨hj13, hn13⟩ (by decide) rfl ?_
          generalize e14 : zw_sI h8 62 j13 ((h8.1 62 j12) + (1 : Int32)) = h14
          have K := K h14 e14.symm
          refine zw_iload_n 3 dX8_lays_150 rfl rfl rfl ?_
          refine zw_iconst (v := (1 : Int32)) dX8_lays_151 (by decide) rfl ?_
          refine zw_iadd dX8_lays_152 rfl ?_
          refine zw_istore dX8_lays_153 (by decide) rfl rfl ?_
          exact zw.sub [2, 3, 1, 0] rfl K
    · have K := K.2 c
      refine zw_iinc (v := (v3 + (-1 : Int32))) 2 dX8_lays_120 rfl rfl (by decide) rfl rfl ?_
      refine zw_goto (np := 102) dX8_lays_123 (by decide) ?_
      exact zw.sub [1, 2, 0] rfl K

set_option maxRecDepth 100000 in
set_option maxHeartbeats 4000000 in
theorem rX8_lays_155 {q : zw_H → Prop} {h : zw_H} {v1 v2 v4 : Int32} (K : ((v1 ≤ v4 → zwV 1 mX8_lays q 35 [(0, .ref 56), (1, .int v1), (2, .int v2)] [] h) ∧ (¬ v1 ≤ v4 → (∃ j1 : Nat, v4 = nI j1 ∧ j1 < 6 ∧ ∀ h2 : zw_H, h2 = zw_sI h 62 j1 (0 : Int32) → zwV 1 mX8_lays q 155 [(0, .ref 56), (1, .int v1), (2, .int v2), (4, .int (v4 + (1 : Int32)))] [] h2)))) : zwV 1 mX8_lays q 155 [(0, .ref 56), (1, .int v1), (2, .int v2), (4, .int v4)] [] h := by
  refine zw_iload 3 dX8_lays_155 rfl rfl ?_
  refine zw_iload_n 1 dX8_lays_157 rfl rfl rfl ?_
  refine zw_icmp_ge (tg := 175) dX8_lays_158 (by decide) rfl (fun c => ?_) (fun c => ?_)
  · have K := K.1 c
    refine zw_goto (np := 35) dX8_lays_175 (by decide) ?_
    exact zw.sub [0, 1, 2] rfl K
  · have K := K.2 c
    refine zw_aload_n 0 dX8_lays_161 rfl rfl rfl ?_
    refine zw_getR f_X8_25 dX8_lays_162 zs_56 rfl rfl ?_
    refine zw_iload 3 dX8_lays_165 rfl rfl ?_
    refine zw_iconst (v := (0 : Int32)) dX8_lays_167 (by decide) rfl ?_
    obtain ⟨j1, hj1, hn1, K⟩ := K
    refine zw_iast j1 dX8_lays_168 zs_62 ⟨hj1, hn1⟩ (by decide) rfl ?_
    generalize e2 : zw_sI h 62 j1 (0 : Int32) = h2
    have K := K h2 e2.symm
    refine zw_iinc (v := (v4 + (1 : Int32))) 3 dX8_lays_169 rfl rfl (by decide) rfl rfl ?_
    refine zw_goto (np := 155) dX8_lays_172 (by decide) ?_
    exact zw.sub [1, 2, 3, 0] rfl K

set_option maxRecDepth 100000 in
set_option maxHeartbeats 4000000 in
theorem rX8_admits_0 {q : zw_H → Prop} {h : zw_H} (K : (∀ h1 : zw_H, h1 = zw_sI h 56 8 (0 : Int32) → zwV 4 mX8_admits q 7 [(0, .ref 56), (1, .int (0 : Int32))] [] h1)) : zwV 4 mX8_admits q 0 [(0, .ref 56)] [] h := by
  refine zw_aload_n 0 dX8_admits_0 rfl rfl rfl ?_
  refine zw_iconst (v := (0 : Int32)) dX8_admits_1 (by decide) rfl ?_
  refine zw_putI f_X8_59 cl_X8 rfl ⟨rfl, rfl⟩ dX8_admits_2 zs_56 rfl rfl ?_
  generalize e1 : zw_sI h 56 8 (0 : Int32) = h1
  have K := K h1 e1.symm
  refine zw_iconst (v := (0 : Int32)) dX8_admits_5 (by decide) rfl ?_
  refine zw_istore_n dX8_admits_6 rfl (by decide) rfl rfl ?_
  exact zw.sub [1, 0] rfl K

set_option maxRecDepth 100000 in
set_option maxHeartbeats 4000000 in
theorem rX8_admits_7 {q : zw_H → Prop} {h : zw_H} {v1 : Int32} (K : (((h.1 56 7) ≤ v1 → q h) ∧ (¬ (h.1 56 7) ≤ v1 → (∃ j1 : Nat, v1 = nI j1 ∧ j1 < 203 ∧ ∀ h2 : zw_H, h2 = zw_sI h 61 j1 (-9 : Int32) → (∃ q3 : Int32 → zw_H → Prop, zcI 3 mX8_reason [.ref 56, .int v1] h2 q3 ∧ (∀ (x3 : Int32) (h3 : zw_H), q3 x3 h3 → ((¬ x3 = 0 → zwV 4 mX8_admits q 7 [(0, .ref 56), (1, .int (v1 + (1 : Int32)))] [] h3) ∧ (x3 = 0 → (∃ j4 : Nat, v1 = nI j4 ∧ j4 < 203 ∧ ∀ h5 : zw_H, h5 = zw_sI h3 61 j4 (h3.1 56 8) → (∀ h6 : zw_H, h6 = zw_sI h5 56 8 ((h5.1 56 8) + (1 : Int32)) → zwV 4 mX8_admits q 7 [(0, .ref 56), (1, .int (v1 + (1 : Int32)))] [] h6)))))))))) : zwV 4 mX8_admits q 7 [(0, .ref 56), (1, .int v1)] [] h := by
  refine zw_iload_n 1 dX8_admits_7 rfl rfl rfl ?_
  refine zw_aload_n 0 dX8_admits_8 rfl rfl rfl ?_
  refine zw_getI f_X8_52 dX8_admits_9 zs_56 rfl rfl ?_
  refine zw_icmp_ge (tg := 57) dX8_admits_12 (by decide) rfl (fun c => ?_) (fun c => ?_)
  · have K := K.1 c
    exact zw_return dX8_admits_57 rfl (Nat.le_refl 0) (Nat.le_refl 0) ⟨rfl, rfl, K⟩
  · have K := K.2 c
    refine zw_aload_n 0 dX8_admits_15 rfl rfl rfl ?_
    refine zw_getR f_X8_22 dX8_admits_16 zs_56 rfl rfl ?_
    refine zw_iload_n 1 dX8_admits_19 rfl rfl rfl ?_
    refine zw_bipush (v := (-9 : Int32)) dX8_admits_20 (by decide) rfl ?_
    obtain ⟨j1, hj1, hn1, K⟩ := K
    refine zw_iast j1 dX8_admits_22 zs_61 ⟨hj1, hn1⟩ (by decide) rfl ?_
    generalize e2 : zw_sI h 61 j1 (-9 : Int32) = h2
    have K := K h2 e2.symm
    refine zw_aload_n 0 dX8_admits_23 rfl rfl rfl ?_
    refine zw_iload_n 1 dX8_admits_24 rfl rfl rfl ?_
    obtain ⟨q3, ct, K⟩ := K
    refine zw_callV (n := 1) (As := [.int v1]) (rest := []) ct my_X8_reason rfl rfl k_X8_62 i_X8_reason s_X8_reason zs_56 rfl dX8_admits_25 (by decide) (Nat.le_of_ble_eq_true rfl) (Nat.le_refl 0) (Nat.le_refl 0) rfl (fun r s1 h3 hq => ?_)
    obtain ⟨x3, rfl, rfl, hq⟩ := hq
    have K := K x3 h3 hq
    refine zw.st (st' := [.int x3]) rfl ?_
    refine zw_if_ne (tg := 51) dX8_admits_28 (by decide) rfl (fun c => ?_) (fun c => ?_)
    · have K := K.1 c
      refine zw_iinc (v := (v1 + (1 : Int32))) 1 dX8_admits_51 rfl rfl (by decide) rfl rfl ?_
      refine zw_goto (np := 7) dX8_admits_54 (by decide) ?_
      exact zw.sub [1, 0] rfl K
    · have K := K.2 c
      refine zw_aload_n 0 dX8_admits_31 rfl rfl rfl ?_
      refine zw_getR f_X8_22 dX8_admits_32 zs_56 rfl rfl ?_
      refine zw_iload_n 1 dX8_admits_35 rfl rfl rfl ?_
      refine zw_aload_n 0 dX8_admits_36 rfl rfl rfl ?_
      refine zw_getI f_X8_59 dX8_admits_37 zs_56 rfl rfl ?_
      obtain ⟨j4, hj4, hn4, K⟩ := K
      refine zw_iast j4 dX8_admits_40 zs_61 ⟨hj4, hn4⟩ (by decide) rfl ?_
      generalize e5 : zw_sI h3 61 j4 (h3.1 56 8) = h5
      have K := K h5 e5.symm
      refine zw_aload_n 0 dX8_admits_41 rfl rfl rfl ?_
      refine zw_dup dX8_admits_42 rfl rfl ?_
      refine zw_getI f_X8_59 dX8_admits_43 zs_56 rfl rfl ?_
      refine zw_iconst (v := (1 : Int32)) dX8_admits_46 (by decide) rfl ?_
      refine zw_iadd dX8_admits_47 rfl ?_
      refine zw_putI f_X8_59 cl_X8 rfl ⟨rfl, rfl⟩ dX8_admits_48 zs_56 rfl rfl ?_
      generalize e6 : zw_sI h5 56 8 ((h5.1 56 8) + (1 : Int32)) = h6
      have K := K h6 e6.symm
      refine zw_iinc (v := (v1 + (1 : Int32))) 1 dX8_admits_51 rfl rfl (by decide) rfl rfl ?_
      refine zw_goto (np := 7) dX8_admits_54 (by decide) ?_
      exact zw.sub [1, 0] rfl K

set_option maxRecDepth 100000 in
set_option maxHeartbeats 4000000 in
theorem rX8_isAdmitted_0 {q : Int32 → zw_H → Prop} {h : zw_H} {v1 : Int32} (K : (∃ j1 : Nat, v1 = nI j1 ∧ j1 < 203 ∧ (((h.1 61 j1) < 0 → q (0 : Int32) h) ∧ (¬ (h.1 61 j1) < 0 → q (1 : Int32) h)))) : zwI 0 mX8_isAdmitted q 0 [(0, .ref 56), (1, .int v1)] [] h := by
  refine zw_aload_n 0 dX8_isAdmitted_0 rfl rfl rfl ?_
  refine zw_getR f_X8_22 dX8_isAdmitted_1 zs_56 rfl rfl ?_
  refine zw_iload_n 1 dX8_isAdmitted_4 rfl rfl rfl ?_
  obtain ⟨j1, hj1, hn1, K⟩ := K
  refine zw_iald j1 dX8_isAdmitted_5 zs_61 ⟨hj1, hn1⟩ (by decide) rfl ?_
  refine zw_if_lt (tg := 13) dX8_isAdmitted_6 (by decide) rfl (fun c => ?_) (fun c => ?_)
  · have K := K.1 c
    refine zw_iconst (v := (0 : Int32)) dX8_isAdmitted_13 (by decide) rfl ?_
    exact zw_ireturn (ty := .boolean) dX8_isAdmitted_14 rfl rfl (Nat.le_refl 0) (Nat.le_refl 0) ⟨_, rfl, rfl, K⟩
  · have K := K.2 c
    refine zw_iconst (v := (1 : Int32)) dX8_isAdmitted_9 (by decide) rfl ?_
    refine zw_goto (np := 14) dX8_isAdmitted_10 (by decide) ?_
    exact zw_ireturn (ty := .boolean) dX8_isAdmitted_14 rfl rfl (Nat.le_refl 0) (Nat.le_refl 0) ⟨_, rfl, rfl, K⟩

set_option maxRecDepth 100000 in
set_option maxHeartbeats 4000000 in
theorem rX8_numberOf_0 {q : Int32 → zw_H → Prop} {h : zw_H} (K : zwI 1 mX8_numberOf q 9 [(0, .ref 56), (1, .int (h.1 57 0)), (2, .int (0 : Int32))] [] h) : zwI 1 mX8_numberOf q 0 [(0, .ref 56)] [] h := by
  refine zw_aload_n 0 dX8_numberOf_0 rfl rfl rfl ?_
  refine zw_getR f_X8_7 dX8_numberOf_1 zs_56 rfl rfl ?_
  refine zw_iconst (v := (0 : Int32)) dX8_numberOf_4 (by decide) rfl ?_
  refine zw_iald 0 dX8_numberOf_5 zs_57 ⟨by decide, by decide⟩ (by decide) rfl ?_
  refine zw_istore_n dX8_numberOf_6 rfl (by decide) rfl rfl ?_
  refine zw_iconst (v := (0 : Int32)) dX8_numberOf_7 (by decide) rfl ?_
  refine zw_istore_n dX8_numberOf_8 rfl (by decide) rfl rfl ?_
  exact zw.sub [2, 1, 0] rfl K

set_option maxRecDepth 100000 in
set_option maxHeartbeats 4000000 in
theorem rX8_numberOf_9 {q : Int32 → zw_H → Prop} {h : zw_H} {v1 v2 : Int32} (K : (((h.1 56 7) ≤ v2 → q (-9 : Int32) h) ∧ (¬ (h.1 56 7) ≤ v2 → zwI 1 mX8_numberOf q 22 [(0, .ref 56), (1, .int v1), (2, .int v2), (3, .int (1 : Int32)), (4, .int (0 : Int32))] [] h))) : zwI 1 mX8_numberOf q 9 [(0, .ref 56), (1, .int v1), (2, .int v2)] [] h := by
  refine zw_iload_n 2 dX8_numberOf_9 rfl rfl rfl ?_
  refine zw_aload_n 0 dX8_numberOf_10 rfl rfl rfl ?_
  refine zw_getI f_X8_52 dX8_numberOf_11 zs_56 rfl rfl ?_
  refine zw_icmp_ge (tg := 123) dX8_numberOf_14 (by decide) rfl (fun c => ?_) (fun c => ?_)
  · have K := K.1 c
    refine zw_bipush (v := (-9 : Int32)) dX8_numberOf_123 (by decide) rfl ?_
    exact zw_ireturn (ty := .int) dX8_numberOf_125 rfl rfl (Nat.le_refl 0) (Nat.le_refl 0) ⟨_, rfl, rfl, K⟩
  · have K := K.2 c
    refine zw_iconst (v := (1 : Int32)) dX8_numberOf_17 (by decide) rfl ?_
    refine zw_istore_n dX8_numberOf_18 rfl (by decide) rfl rfl ?_
    refine zw_iconst (v := (0 : Int32)) dX8_numberOf_19 (by decide) rfl ?_
    refine zw_istore dX8_numberOf_20 (by decide) rfl rfl ?_
    exact zw.sub [2, 3, 4, 1, 0] rfl K

set_option maxRecDepth 100000 in
set_option maxHeartbeats 4000000 in
theorem rX8_numberOf_22 {q : Int32 → zw_H → Prop} {h : zw_H} {v1 v2 v3 v4 : Int32} (K : ((v1 ≤ v4 → ((v3 = 0 → zwI 1 mX8_numberOf q 9 [(0, .ref 56), (1, .int v1), (2, .int (v2 + (1 : Int32)))] [] h) ∧ (¬ v3 = 0 → q v2 h))) ∧ (¬ v1 ≤ v4 → ((v3 = 0 → ((v3 = 0 → zwI 1 mX8_numberOf q 9 [(0, .ref 56), (1, .int v1), (2, .int (v2 + (1 : Int32)))] [] h) ∧ (¬ v3 = 0 → q v2 h))) ∧ (¬ v3 = 0 → zwI 1 mX8_numberOf q 35 [(0, .ref 56), (1, .int v1), (2, .int v2), (3, .int v3), (4, .int v4), (5, .int (0 : Int32))] [] h))))) : zwI 1 mX8_numberOf q 22 [(0, .ref 56), (1, .int v1), (2, .int v2), (3, .int v3), (4, .int v4)] [] h := by
  refine zw_iload 4 dX8_numberOf_22 rfl rfl ?_
  refine zw_iload_n 1 dX8_numberOf_24 rfl rfl rfl ?_
  refine zw_icmp_ge (tg := 111) dX8_numberOf_25 (by decide) rfl (fun c => ?_) (fun c => ?_)
  · have K := K.1 c
    refine zw_iload_n 3 dX8_numberOf_111 rfl rfl rfl ?_
    refine zw_if_eq (tg := 117) dX8_numberOf_112 (by decide) rfl (fun c => ?_) (fun c => ?_)
    · have K := K.1 c
      refine zw_iinc (v := (v2 + (1 : Int32))) 2 dX8_numberOf_117 rfl rfl (by decide) rfl rfl ?_
      refine zw_goto (np := 9) dX8_numberOf_120 (by decide) ?_
      exact zw.sub [1, 2, 0] rfl K
    · have K := K.2 c
      refine zw_iload_n 2 dX8_numberOf_115 rfl rfl rfl ?_
      exact zw_ireturn (ty := .int) dX8_numberOf_116 rfl rfl (Nat.le_refl 0) (Nat.le_refl 0) ⟨_, rfl, rfl, K⟩
  · have K := K.2 c
    refine zw_iload_n 3 dX8_numberOf_28 rfl rfl rfl ?_
    refine zw_if_eq (tg := 111) dX8_numberOf_29 (by decide) rfl (fun c => ?_) (fun c => ?_)
    · have K := K.1 c
      refine zw_iload_n 3 dX8_numberOf_111 rfl rfl rfl ?_
      refine zw_if_eq (tg := 117) dX8_numberOf_112 (by decide) rfl (fun c => ?_) (fun c => ?_)
      · have K := K.1 c
        refine zw_iinc (v := (v2 + (1 : Int32))) 2 dX8_numberOf_117 rfl rfl (by decide) rfl rfl ?_
        refine zw_goto (np := 9) dX8_numberOf_120 (by decide) ?_
        exact zw.sub [1, 2, 0] rfl K
      · have K := K.2 c
        refine zw_iload_n 2 dX8_numberOf_115 rfl rfl rfl ?_
        exact zw_ireturn (ty := .int) dX8_numberOf_116 rfl rfl (Nat.le_refl 0) (Nat.le_refl 0) ⟨_, rfl, rfl, K⟩
    · have K := K.2 c
      refine zw_iconst (v := (0 : Int32)) dX8_numberOf_32 (by decide) rfl ?_
      refine zw_istore dX8_numberOf_33 (by decide) rfl rfl ?_
      exact zw.sub [1, 2, 3, 4, 5, 0] rfl K

set_option maxRecDepth 100000 in
set_option maxHeartbeats 4000000 in
theorem rX8_numberOf_35 {q : Int32 → zw_H → Prop} {h : zw_H} {v1 v2 v3 v4 v5 : Int32} (K : ((v4 ≤ v5 → zwI 1 mX8_numberOf q 22 [(0, .ref 56), (1, .int v1), (2, .int v2), (3, .int v3), (4, .int (v4 + (1 : Int32)))] [] h) ∧ (¬ v4 ≤ v5 → ((v3 = 0 → zwI 1 mX8_numberOf q 22 [(0, .ref 56), (1, .int v1), (2, .int v2), (3, .int v3), (4, .int (v4 + (1 : Int32)))] [] h) ∧ (¬ v3 = 0 → (∃ j1 : Nat, v4 = nI j1 ∧ j1 < 6 ∧ (∃ j2 : Nat, v5 = nI j2 ∧ j2 < 6 ∧ ((¬ (h.1 62 j1) = (h.1 62 j2) → (∃ q3 : Int32 → zw_H → Prop, zcI 0 mX8_at [.ref 56, .int v2, .int v4] h q3 ∧ (∀ (x3 : Int32) (h3 : zw_H), q3 x3 h3 → (∃ q4 : Int32 → zw_H → Prop, zcI 0 mX8_at [.ref 56, .int v2, .int v5] h3 q4 ∧ (∀ (x4 : Int32) (h4 : zw_H), q4 x4 h4 → ((¬ x3 = x4 → ((¬ (0 : Int32) = (0 : Int32) → zwI 1 mX8_numberOf q 35 [(0, .ref 56), (1, .int v1), (2, .int v2), (3, .int (0 : Int32)), (4, .int v4), (5, .int (v5 + (1 : Int32)))] [] h4) ∧ ((0 : Int32) = (0 : Int32) → zwI 1 mX8_numberOf q 35 [(0, .ref 56), (1, .int v1), (2, .int v2), (3, .int (1 : Int32)), (4, .int v4), (5, .int (v5 + (1 : Int32)))] [] h4))) ∧ (x3 = x4 → ((¬ (0 : Int32) = (1 : Int32) → zwI 1 mX8_numberOf q 35 [(0, .ref 56), (1, .int v1), (2, .int v2), (3, .int (0 : Int32)), (4, .int v4), (5, .int (v5 + (1 : Int32)))] [] h4) ∧ ((0 : Int32) = (1 : Int32) → zwI 1 mX8_numberOf q 35 [(0, .ref 56), (1, .int v1), (2, .int v2), (3, .int (1 : Int32)), (4, .int v4), (5, .int (v5 + (1 : Int32)))] [] h4))))))))) ∧ ((h.1 62 j1) = (h.1 62 j2) → (∃ q5 : Int32 → zw_H → Prop, zcI 0 mX8_at [.ref 56, .int v2, .int v4] h q5 ∧ (∀ (x5 : Int32) (h5 : zw_H), q5 x5 h5 → (∃ q6 : Int32 → zw_H → Prop, zcI 0 mX8_at [.ref 56, .int v2, .int v5] h5 q6 ∧ (∀ (x6 : Int32) (h6 : zw_H), q6 x6 h6 → ((¬ x5 = x6 → ((¬ (1 : Int32) = (0 : Int32) → zwI 1 mX8_numberOf q 35 [(0, .ref 56), (1, .int v1), (2, .int v2), (3, .int (0 : Int32)), (4, .int v4), (5, .int (v5 + (1 : Int32)))] [] h6) ∧ ((1 : Int32) = (0 : Int32) → zwI 1 mX8_numberOf q 35 [(0, .ref 56), (1, .int v1), (2, .int v2), (3, .int (1 : Int32)), (4, .int v4), (5, .int (v5 + (1 : Int32)))] [] h6))) ∧ (x5 = x6 → ((¬ (1 : Int32) = (1 : Int32) → zwI 1 mX8_numberOf q 35 [(0, .ref 56), (1, .int v1), (2, .int v2), (3, .int (0 : Int32)), (4, .int v4), (5, .int (v5 + (1 : Int32)))] [] h6) ∧ ((1 : Int32) = (1 : Int32) → zwI 1 mX8_numberOf q 35 [(0, .ref 56), (1, .int v1), (2, .int v2), (3, .int (1 : Int32)), (4, .int v4), (5, .int (v5 + (1 : Int32)))] [] h6))))))))))))))))) : zwI 1 mX8_numberOf q 35 [(0, .ref 56), (1, .int v1), (2, .int v2), (3, .int v3), (4, .int v4), (5, .int v5)] [] h := by
  refine zw_iload 5 dX8_numberOf_35 rfl rfl ?_
  refine zw_iload 4 dX8_numberOf_37 rfl rfl ?_
  refine zw_icmp_ge (tg := 105) dX8_numberOf_39 (by decide) rfl (fun c => ?_) (fun c => ?_)
  · have K := K.1 c
    refine zw_iinc (v := (v4 + (1 : Int32))) 4 dX8_numberOf_105 rfl rfl (by decide) rfl rfl ?_
    refine zw_goto (np := 22) dX8_numberOf_108 (by decide) ?_
    exact zw.sub [1, 2, 3, 4, 0] rfl K
  · have K := K.2 c
    refine zw_iload_n 3 dX8_numberOf_42 rfl rfl rfl ?_
    refine zw_if_eq (tg := 105) dX8_numberOf_43 (by decide) rfl (fun c => ?_) (fun c => ?_)
    · have K := K.1 c
      refine zw_iinc (v := (v4 + (1 : Int32))) 4 dX8_numberOf_105 rfl rfl (by decide) rfl rfl ?_
      refine zw_goto (np := 22) dX8_numberOf_108 (by decide) ?_
      exact zw.sub [1, 2, 3, 4, 0] rfl K
    · have K := K.2 c
      refine zw_aload_n 0 dX8_numberOf_46 rfl rfl rfl ?_
      refine zw_getR f_X8_25 dX8_numberOf_47 zs_56 rfl rfl ?_
      refine zw_iload 4 dX8_numberOf_50 rfl rfl ?_
      obtain ⟨j1, hj1, hn1, K⟩ := K
      refine zw_iald j1 dX8_numberOf_52 zs_62 ⟨hj1, hn1⟩ (by decide) rfl ?_
      refine zw_aload_n 0 dX8_numberOf_53 rfl rfl rfl ?_
      refine zw_getR f_X8_25 dX8_numberOf_54 zs_56 rfl rfl ?_
      refine zw_iload 5 dX8_numberOf_57 rfl rfl ?_
      obtain ⟨j2, hj2, hn2, K⟩ := K
      refine zw_iald j2 dX8_numberOf_59 zs_62 ⟨hj2, hn2⟩ (by decide) rfl ?_
      refine zw_icmp_ne (tg := 67) dX8_numberOf_60 (by decide) rfl (fun c => ?_) (fun c => ?_)
      · have K := K.1 c
        refine zw_iconst (v := (0 : Int32)) dX8_numberOf_67 (by decide) rfl ?_
        refine zw_aload_n 0 dX8_numberOf_68 rfl rfl rfl ?_
        refine zw_iload_n 2 dX8_numberOf_69 rfl rfl rfl ?_
        refine zw_iload 4 dX8_numberOf_70 rfl rfl ?_
        obtain ⟨q3, ct, K⟩ := K
        refine zw_callV (n := 2) (As := [.int v2, .int v4]) (rest := [.int (0 : Int32)]) ct my_X8_at rfl rfl k_X8_65 i_X8_at s_X8_at zs_56 rfl dX8_numberOf_72 (by decide) (Nat.le_of_ble_eq_true rfl) (Nat.le_refl 0) (Nat.le_refl 0) rfl (fun r s1 h3 hq => ?_)
        obtain ⟨x3, rfl, rfl, hq⟩ := hq
        have K := K x3 h3 hq
        refine zw.st (st' := [.int x3, .int (0 : Int32)]) rfl ?_
        refine zw_aload_n 0 dX8_numberOf_75 rfl rfl rfl ?_
        refine zw_iload_n 2 dX8_numberOf_76 rfl rfl rfl ?_
        refine zw_iload 5 dX8_numberOf_77 rfl rfl ?_
        obtain ⟨q4, ct, K⟩ := K
        refine zw_callV (n := 2) (As := [.int v2, .int v5]) (rest := [.int x3, .int (0 : Int32)]) ct my_X8_at rfl rfl k_X8_65 i_X8_at s_X8_at zs_56 rfl dX8_numberOf_79 (by decide) (Nat.le_of_ble_eq_true rfl) (Nat.le_refl 0) (Nat.le_refl 0) rfl (fun r s1 h4 hq => ?_)
        obtain ⟨x4, rfl, rfl, hq⟩ := hq
        have K := K x4 h4 hq
        refine zw.st (st' := [.int x4, .int x3, .int (0 : Int32)]) rfl ?_
        refine zw_icmp_ne (tg := 89) dX8_numberOf_82 (by decide) rfl (fun c => ?_) (fun c => ?_)
        · have K := K.1 c
          refine zw_iconst (v := (0 : Int32)) dX8_numberOf_89 (by decide) rfl ?_
          refine zw_icmp_ne (tg := 97) dX8_numberOf_90 (by decide) rfl (fun c => ?_) (fun c => ?_)
          · have K := K.1 c
            refine zw_iconst (v := (0 : Int32)) dX8_numberOf_97 (by decide) rfl ?_
            refine zw_istore_n dX8_numberOf_98 rfl (by decide) rfl rfl ?_
            refine zw_iinc (v := (v5 + (1 : Int32))) 5 dX8_numberOf_99 rfl rfl (by decide) rfl rfl ?_
            refine zw_goto (np := 35) dX8_numberOf_102 (by decide) ?_
            exact zw.sub [2, 3, 4, 1, 5, 0] rfl K
          · have K := K.2 c
            refine zw_iconst (v := (1 : Int32)) dX8_numberOf_93 (by decide) rfl ?_
            refine zw_goto (np := 98) dX8_numberOf_94 (by decide) ?_
            refine zw_istore_n dX8_numberOf_98 rfl (by decide) rfl rfl ?_
            refine zw_iinc (v := (v5 + (1 : Int32))) 5 dX8_numberOf_99 rfl rfl (by decide) rfl rfl ?_
            refine zw_goto (np := 35) dX8_numberOf_102 (by decide) ?_
            exact zw.sub [2, 3, 4, 1, 5, 0] rfl K
        · have K := K.2 c
          refine zw_iconst (v := (1 : Int32)) dX8_numberOf_85 (by decide) rfl ?_
          refine zw_goto (np := 90) dX8_numberOf_86 (by decide) ?_
          refine zw_icmp_ne (tg := 97) dX8_numberOf_90 (by decide) rfl (fun c => ?_) (fun c => ?_)
          · have K := K.1 c
            refine zw_iconst (v := (0 : Int32)) dX8_numberOf_97 (by decide) rfl ?_
            refine zw_istore_n dX8_numberOf_98 rfl (by decide) rfl rfl ?_
            refine zw_iinc (v := (v5 + (1 : Int32))) 5 dX8_numberOf_99 rfl rfl (by decide) rfl rfl ?_
            refine zw_goto (np := 35) dX8_numberOf_102 (by decide) ?_
            exact zw.sub [2, 3, 4, 1, 5, 0] rfl K
          · have K := K.2 c
            refine zw_iconst (v := (1 : Int32)) dX8_numberOf_93 (by decide) rfl ?_
            refine zw_goto (np := 98) dX8_numberOf_94 (by decide) ?_
            refine zw_istore_n dX8_numberOf_98 rfl (by decide) rfl rfl ?_
            refine zw_iinc (v := (v5 + (1 : Int32))) 5 dX8_numberOf_99 rfl rfl (by decide) rfl rfl ?_
            refine zw_goto (np := 35) dX8_numberOf_102 (by decide) ?_
            exact zw.sub [2, 3, 4, 1, 5, 0] rfl K
      · have K := K.2 c
        refine zw_iconst (v := (1 : Int32)) dX8_numberOf_63 (by decide) rfl ?_
        refine zw_goto (np := 68) dX8_numberOf_64 (by decide) ?_
        refine zw_aload_n 0 dX8_numberOf_68 rfl rfl rfl ?_
        refine zw_iload_n 2 dX8_numberOf_69 rfl rfl rfl ?_
        refine zw_iload 4 dX8_numberOf_70 rfl rfl ?_
        obtain ⟨q5, ct, K⟩ := K
        refine zw_callV (n := 2) (As := [.int v2, .int v4]) (rest := [.int (1 : Int32)]) ct my_X8_at rfl rfl k_X8_65 i_X8_at s_X8_at zs_56 rfl dX8_numberOf_72 (by decide) (Nat.le_of_ble_eq_true rfl) (Nat.le_refl 0) (Nat.le_refl 0) rfl (fun r s1 h5 hq => ?_)
        obtain ⟨x5, rfl, rfl, hq⟩ := hq
        have K := K x5 h5 hq
        refine zw.st (st' := [.int x5, .int (1 : Int32)]) rfl ?_
        refine zw_aload_n 0 dX8_numberOf_75 rfl rfl rfl ?_
        refine zw_iload_n 2 dX8_numberOf_76 rfl rfl rfl ?_
        refine zw_iload 5 dX8_numberOf_77 rfl rfl ?_
        obtain ⟨q6, ct, K⟩ := K
        refine zw_callV (n := 2) (As := [.int v2, .int v5]) (rest := [.int x5, .int (1 : Int32)]) ct my_X8_at rfl rfl k_X8_65 i_X8_at s_X8_at zs_56 rfl dX8_numberOf_79 (by decide) (Nat.le_of_ble_eq_true rfl) (Nat.le_refl 0) (Nat.le_refl 0) rfl (fun r s1 h6 hq => ?_)
        obtain ⟨x6, rfl, rfl, hq⟩ := hq
        have K := K x6 h6 hq
        refine zw.st (st' := [.int x6, .int x5, .int (1 : Int32)]) rfl ?_
        refine zw_icmp_ne (tg := 89) dX8_numberOf_82 (by decide) rfl (fun c => ?_) (fun c => ?_)
        · have K := K.1 c
          refine zw_iconst (v := (0 : Int32)) dX8_numberOf_89 (by decide) rfl ?_
          refine zw_icmp_ne (tg := 97) dX8_numberOf_90 (by decide) rfl (fun c => ?_) (fun c => ?_)
          · have K := K.1 c
            refine zw_iconst (v := (0 : Int32)) dX8_numberOf_97 (by decide) rfl ?_
            refine zw_istore_n dX8_numberOf_98 rfl (by decide) rfl rfl ?_
            refine zw_iinc (v := (v5 + (1 : Int32))) 5 dX8_numberOf_99 rfl rfl (by decide) rfl rfl ?_
            refine zw_goto (np := 35) dX8_numberOf_102 (by decide) ?_
            exact zw.sub [2, 3, 4, 1, 5, 0] rfl K
          · have K := K.2 c
            refine zw_iconst (v := (1 : Int32)) dX8_numberOf_93 (by decide) rfl ?_
            refine zw_goto (np := 98) dX8_numberOf_94 (by decide) ?_
            refine zw_istore_n dX8_numberOf_98 rfl (by decide) rfl rfl ?_
            refine zw_iinc (v := (v5 + (1 : Int32))) 5 dX8_numberOf_99 rfl rfl (by decide) rfl rfl ?_
            refine zw_goto (np := 35) dX8_numberOf_102 (by decide) ?_
            exact zw.sub [2, 3, 4, 1, 5, 0] rfl K
        · have K := K.2 c
          refine zw_iconst (v := (1 : Int32)) dX8_numberOf_85 (by decide) rfl ?_
          refine zw_goto (np := 90) dX8_numberOf_86 (by decide) ?_
          refine zw_icmp_ne (tg := 97) dX8_numberOf_90 (by decide) rfl (fun c => ?_) (fun c => ?_)
          · have K := K.1 c
            refine zw_iconst (v := (0 : Int32)) dX8_numberOf_97 (by decide) rfl ?_
            refine zw_istore_n dX8_numberOf_98 rfl (by decide) rfl rfl ?_
            refine zw_iinc (v := (v5 + (1 : Int32))) 5 dX8_numberOf_99 rfl rfl (by decide) rfl rfl ?_
            refine zw_goto (np := 35) dX8_numberOf_102 (by decide) ?_
            exact zw.sub [2, 3, 4, 1, 5, 0] rfl K
          · have K := K.2 c
            refine zw_iconst (v := (1 : Int32)) dX8_numberOf_93 (by decide) rfl ?_
            refine zw_goto (np := 98) dX8_numberOf_94 (by decide) ?_
            refine zw_istore_n dX8_numberOf_98 rfl (by decide) rfl rfl ?_
            refine zw_iinc (v := (v5 + (1 : Int32))) 5 dX8_numberOf_99 rfl rfl (by decide) rfl rfl ?_
            refine zw_goto (np := 35) dX8_numberOf_102 (by decide) ?_
            exact zw.sub [2, 3, 4, 1, 5, 0] rfl K

set_option maxRecDepth 100000 in
set_option maxHeartbeats 4000000 in
theorem rX8_takes_0 {q : zw_H → Prop} {h : zw_H} {v1 : Int32} (K : zwV 1 mX8_takes q 2 [(0, .ref 56), (1, .int v1), (2, .int (0 : Int32))] [] h) : zwV 1 mX8_takes q 0 [(0, .ref 56), (1, .int v1)] [] h := by
  refine zw_iconst (v := (0 : Int32)) dX8_takes_0 (by decide) rfl ?_
  refine zw_istore_n dX8_takes_1 rfl (by decide) rfl rfl ?_
  exact zw.sub [1, 2, 0] rfl K

set_option maxRecDepth 100000 in
set_option maxHeartbeats 4000000 in
theorem rX8_takes_2 {q : zw_H → Prop} {h : zw_H} {v1 v2 : Int32} (K : (((h.1 57 0) ≤ v2 → q h) ∧ (¬ (h.1 57 0) ≤ v2 → (∃ q1 : Int32 → zw_H → Prop, zcI 0 mX8_at [.ref 56, .int v1, .int v2] h q1 ∧ (∀ (x1 : Int32) (h1 : zw_H), q1 x1 h1 → (∃ j2 : Nat, v2 = nI j2 ∧ j2 < 6 ∧ ∀ h3 : zw_H, h3 = zw_sI h1 62 j2 x1 → zwV 1 mX8_takes q 2 [(0, .ref 56), (1, .int v1), (2, .int (v2 + (1 : Int32)))] [] h3)))))) : zwV 1 mX8_takes q 2 [(0, .ref 56), (1, .int v1), (2, .int v2)] [] h := by
  refine zw_iload_n 2 dX8_takes_2 rfl rfl rfl ?_
  refine zw_aload_n 0 dX8_takes_3 rfl rfl rfl ?_
  refine zw_getR f_X8_7 dX8_takes_4 zs_56 rfl rfl ?_
  refine zw_iconst (v := (0 : Int32)) dX8_takes_7 (by decide) rfl ?_
  refine zw_iald 0 dX8_takes_8 zs_57 ⟨by decide, by decide⟩ (by decide) rfl ?_
  refine zw_icmp_ge (tg := 30) dX8_takes_9 (by decide) rfl (fun c => ?_) (fun c => ?_)
  · have K := K.1 c
    exact zw_return dX8_takes_30 rfl (Nat.le_refl 0) (Nat.le_refl 0) ⟨rfl, rfl, K⟩
  · have K := K.2 c
    refine zw_aload_n 0 dX8_takes_12 rfl rfl rfl ?_
    refine zw_getR f_X8_25 dX8_takes_13 zs_56 rfl rfl ?_
    refine zw_iload_n 2 dX8_takes_16 rfl rfl rfl ?_
    refine zw_aload_n 0 dX8_takes_17 rfl rfl rfl ?_
    refine zw_iload_n 1 dX8_takes_18 rfl rfl rfl ?_
    refine zw_iload_n 2 dX8_takes_19 rfl rfl rfl ?_
    obtain ⟨q1, ct, K⟩ := K
    refine zw_callV (n := 2) (As := [.int v1, .int v2]) (rest := [.int v2, .ref 62]) ct my_X8_at rfl rfl k_X8_65 i_X8_at s_X8_at zs_56 rfl dX8_takes_20 (by decide) (Nat.le_of_ble_eq_true rfl) (Nat.le_refl 0) (Nat.le_refl 0) rfl (fun r s1 h1 hq => ?_)
    obtain ⟨x1, rfl, rfl, hq⟩ := hq
    have K := K x1 h1 hq
    refine zw.st (st' := [.int x1, .int v2, .ref 62]) rfl ?_
    obtain ⟨j2, hj2, hn2, K⟩ := K
    refine zw_iast j2 dX8_takes_23 zs_62 ⟨hj2, hn2⟩ (by decide) rfl ?_
    generalize e3 : zw_sI h1 62 j2 x1 = h3
    have K := K h3 e3.symm
    refine zw_iinc (v := (v2 + (1 : Int32))) 2 dX8_takes_24 rfl rfl (by decide) rfl rfl ?_
    refine zw_goto (np := 2) dX8_takes_27 (by decide) ?_
    exact zw.sub [1, 2, 0] rfl K

set_option maxRecDepth 100000 in
set_option maxHeartbeats 4000000 in
theorem rX8_sizeOf_0 {q : Int32 → zw_H → Prop} {h : zw_H} {v1 v2 : Int32} (K : zwI 1 mX8_sizeOf q 5 [(0, .ref 56), (1, .int v1), (2, .int v2), (3, .int (0 : Int32)), (4, .int (0 : Int32))] [] h) : zwI 1 mX8_sizeOf q 0 [(0, .ref 56), (1, .int v1), (2, .int v2)] [] h := by
  refine zw_iconst (v := (0 : Int32)) dX8_sizeOf_0 (by decide) rfl ?_
  refine zw_istore_n dX8_sizeOf_1 rfl (by decide) rfl rfl ?_
  refine zw_iconst (v := (0 : Int32)) dX8_sizeOf_2 (by decide) rfl ?_
  refine zw_istore dX8_sizeOf_3 (by decide) rfl rfl ?_
  exact zw.sub [2, 3, 4, 1, 0] rfl K

set_option maxRecDepth 100000 in
set_option maxHeartbeats 4000000 in
theorem rX8_sizeOf_5 {q : Int32 → zw_H → Prop} {h : zw_H} {v1 v2 v3 v4 : Int32} (K : (((h.1 57 0) ≤ v4 → q v3 h) ∧ (¬ (h.1 57 0) ≤ v4 → (∃ q1 : Int32 → zw_H → Prop, zcI 0 mX8_at [.ref 56, .int v1, .int v4] h q1 ∧ (∀ (x1 : Int32) (h1 : zw_H), q1 x1 h1 → ((¬ x1 = v2 → zwI 1 mX8_sizeOf q 5 [(0, .ref 56), (1, .int v1), (2, .int v2), (3, .int (v3 + (0 : Int32))), (4, .int (v4 + (1 : Int32)))] [] h1) ∧ (x1 = v2 → zwI 1 mX8_sizeOf q 5 [(0, .ref 56), (1, .int v1), (2, .int v2), (3, .int (v3 + (1 : Int32))), (4, .int (v4 + (1 : Int32)))] [] h1))))))) : zwI 1 mX8_sizeOf q 5 [(0, .ref 56), (1, .int v1), (2, .int v2), (3, .int v3), (4, .int v4)] [] h := by
  refine zw_iload 4 dX8_sizeOf_5 rfl rfl ?_
  refine zw_aload_n 0 dX8_sizeOf_7 rfl rfl rfl ?_
  refine zw_getR f_X8_7 dX8_sizeOf_8 zs_56 rfl rfl ?_
  refine zw_iconst (v := (0 : Int32)) dX8_sizeOf_11 (by decide) rfl ?_
  refine zw_iald 0 dX8_sizeOf_12 zs_57 ⟨by decide, by decide⟩ (by decide) rfl ?_
  refine zw_icmp_ge (tg := 41) dX8_sizeOf_13 (by decide) rfl (fun c => ?_) (fun c => ?_)
  · have K := K.1 c
    refine zw_iload_n 3 dX8_sizeOf_41 rfl rfl rfl ?_
    exact zw_ireturn (ty := .int) dX8_sizeOf_42 rfl rfl (Nat.le_refl 0) (Nat.le_refl 0) ⟨_, rfl, rfl, K⟩
  · have K := K.2 c
    refine zw_iload_n 3 dX8_sizeOf_16 rfl rfl rfl ?_
    refine zw_aload_n 0 dX8_sizeOf_17 rfl rfl rfl ?_
    refine zw_iload_n 1 dX8_sizeOf_18 rfl rfl rfl ?_
    refine zw_iload 4 dX8_sizeOf_19 rfl rfl ?_
    obtain ⟨q1, ct, K⟩ := K
    refine zw_callV (n := 2) (As := [.int v1, .int v4]) (rest := [.int v3]) ct my_X8_at rfl rfl k_X8_65 i_X8_at s_X8_at zs_56 rfl dX8_sizeOf_21 (by decide) (Nat.le_of_ble_eq_true rfl) (Nat.le_refl 0) (Nat.le_refl 0) rfl (fun r s1 h1 hq => ?_)
    obtain ⟨x1, rfl, rfl, hq⟩ := hq
    have K := K x1 h1 hq
    refine zw.st (st' := [.int x1, .int v3]) rfl ?_
    refine zw_iload_n 2 dX8_sizeOf_24 rfl rfl rfl ?_
    refine zw_icmp_ne (tg := 32) dX8_sizeOf_25 (by decide) rfl (fun c => ?_) (fun c => ?_)
    · have K := K.1 c
      refine zw_iconst (v := (0 : Int32)) dX8_sizeOf_32 (by decide) rfl ?_
      refine zw_iadd dX8_sizeOf_33 rfl ?_
      refine zw_istore_n dX8_sizeOf_34 rfl (by decide) rfl rfl ?_
      refine zw_iinc (v := (v4 + (1 : Int32))) 4 dX8_sizeOf_35 rfl rfl (by decide) rfl rfl ?_
      refine zw_goto (np := 5) dX8_sizeOf_38 (by decide) ?_
      exact zw.sub [2, 3, 4, 1, 0] rfl K
    · have K := K.2 c
      refine zw_iconst (v := (1 : Int32)) dX8_sizeOf_28 (by decide) rfl ?_
      refine zw_goto (np := 33) dX8_sizeOf_29 (by decide) ?_
      refine zw_iadd dX8_sizeOf_33 rfl ?_
      refine zw_istore_n dX8_sizeOf_34 rfl (by decide) rfl rfl ?_
      refine zw_iinc (v := (v4 + (1 : Int32))) 4 dX8_sizeOf_35 rfl rfl (by decide) rfl rfl ?_
      refine zw_goto (np := 5) dX8_sizeOf_38 (by decide) ?_
      exact zw.sub [2, 3, 4, 1, 0] rfl K

set_option maxRecDepth 100000 in
set_option maxHeartbeats 4000000 in
theorem rX8_areCrossing_0 {q : Int32 → zw_H → Prop} {h : zw_H} {v1 v2 v3 : Int32} (K : zwI 1 mX8_areCrossing q 10 [(0, .ref 56), (1, .int v1), (2, .int v2), (3, .int v3), (4, .int (0 : Int32)), (5, .int (-9 : Int32)), (6, .int (0 : Int32))] [] h) : zwI 1 mX8_areCrossing q 0 [(0, .ref 56), (1, .int v1), (2, .int v2), (3, .int v3)] [] h := by
  refine zw_iconst (v := (0 : Int32)) dX8_areCrossing_0 (by decide) rfl ?_
  refine zw_istore dX8_areCrossing_1 (by decide) rfl rfl ?_
  refine zw_bipush (v := (-9 : Int32)) dX8_areCrossing_3 (by decide) rfl ?_
  refine zw_istore dX8_areCrossing_5 (by decide) rfl rfl ?_
  refine zw_iconst (v := (0 : Int32)) dX8_areCrossing_7 (by decide) rfl ?_
  refine zw_istore dX8_areCrossing_8 (by decide) rfl rfl ?_
  exact zw.sub [3, 4, 5, 6, 2, 1, 0] rfl K

set_option maxRecDepth 100000 in
set_option maxHeartbeats 4000000 in
theorem rX8_areCrossing_10 {q : Int32 → zw_H → Prop} {h : zw_H} {v1 v2 v3 v4 v5 v6 : Int32} (K : (((h.1 57 0) ≤ v6 → ((v4 < (4 : Int32) → q (0 : Int32) h) ∧ (¬ v4 < (4 : Int32) → q (1 : Int32) h))) ∧ (¬ (h.1 57 0) ≤ v6 → (∃ q1 : Int32 → zw_H → Prop, zcI 0 mX8_at [.ref 56, .int v1, .int v6] h q1 ∧ (∀ (x1 : Int32) (h1 : zw_H), q1 x1 h1 → ((x1 = v2 → ((x1 = v5 → zwI 1 mX8_areCrossing q 10 [(0, .ref 56), (1, .int v1), (2, .int v2), (3, .int v3), (4, .int v4), (5, .int v5), (6, .int (v6 + (1 : Int32)))] [] h1) ∧ (¬ x1 = v5 → zwI 1 mX8_areCrossing q 10 [(0, .ref 56), (1, .int v1), (2, .int v2), (3, .int v3), (4, .int (v4 + (1 : Int32))), (5, .int x1), (6, .int (v6 + (1 : Int32)))] [] h1))) ∧ (¬ x1 = v2 → ((¬ x1 = v3 → zwI 1 mX8_areCrossing q 10 [(0, .ref 56), (1, .int v1), (2, .int v2), (3, .int v3), (4, .int v4), (5, .int v5), (6, .int (v6 + (1 : Int32)))] [] h1) ∧ (x1 = v3 → ((x1 = v5 → zwI 1 mX8_areCrossing q 10 [(0, .ref 56), (1, .int v1), (2, .int v2), (3, .int v3), (4, .int v4), (5, .int v5), (6, .int (v6 + (1 : Int32)))] [] h1) ∧ (¬ x1 = v5 → zwI 1 mX8_areCrossing q 10 [(0, .ref 56), (1, .int v1), (2, .int v2), (3, .int v3), (4, .int (v4 + (1 : Int32))), (5, .int x1), (6, .int (v6 + (1 : Int32)))] [] h1))))))))))) : zwI 1 mX8_areCrossing q 10 [(0, .ref 56), (1, .int v1), (2, .int v2), (3, .int v3), (4, .int v4), (5, .int v5), (6, .int v6)] [] h := by
  refine zw_iload 6 dX8_areCrossing_10 rfl rfl ?_
  refine zw_aload_n 0 dX8_areCrossing_12 rfl rfl rfl ?_
  refine zw_getR f_X8_7 dX8_areCrossing_13 zs_56 rfl rfl ?_
  refine zw_iconst (v := (0 : Int32)) dX8_areCrossing_16 (by decide) rfl ?_
  refine zw_iald 0 dX8_areCrossing_17 zs_57 ⟨by decide, by decide⟩ (by decide) rfl ?_
  refine zw_icmp_ge (tg := 62) dX8_areCrossing_18 (by decide) rfl (fun c => ?_) (fun c => ?_)
  · have K := K.1 c
    refine zw_iload 4 dX8_areCrossing_62 rfl rfl ?_
    refine zw_iconst (v := (4 : Int32)) dX8_areCrossing_64 (by decide) rfl ?_
    refine zw_icmp_lt (tg := 72) dX8_areCrossing_65 (by decide) rfl (fun c => ?_) (fun c => ?_)
    · have K := K.1 c
      refine zw_iconst (v := (0 : Int32)) dX8_areCrossing_72 (by decide) rfl ?_
      exact zw_ireturn (ty := .boolean) dX8_areCrossing_73 rfl rfl (Nat.le_refl 0) (Nat.le_refl 0) ⟨_, rfl, rfl, K⟩
    · have K := K.2 c
      refine zw_iconst (v := (1 : Int32)) dX8_areCrossing_68 (by decide) rfl ?_
      refine zw_goto (np := 73) dX8_areCrossing_69 (by decide) ?_
      exact zw_ireturn (ty := .boolean) dX8_areCrossing_73 rfl rfl (Nat.le_refl 0) (Nat.le_refl 0) ⟨_, rfl, rfl, K⟩
  · have K := K.2 c
    refine zw_aload_n 0 dX8_areCrossing_21 rfl rfl rfl ?_
    refine zw_iload_n 1 dX8_areCrossing_22 rfl rfl rfl ?_
    refine zw_iload 6 dX8_areCrossing_23 rfl rfl ?_
    obtain ⟨q1, ct, K⟩ := K
    refine zw_callV (n := 2) (As := [.int v1, .int v6]) (rest := []) ct my_X8_at rfl rfl k_X8_65 i_X8_at s_X8_at zs_56 rfl dX8_areCrossing_25 (by decide) (Nat.le_of_ble_eq_true rfl) (Nat.le_refl 0) (Nat.le_refl 0) rfl (fun r s1 h1 hq => ?_)
    obtain ⟨x1, rfl, rfl, hq⟩ := hq
    have K := K x1 h1 hq
    refine zw.st (st' := [.int x1]) rfl ?_
    refine zw_istore dX8_areCrossing_28 (by decide) rfl rfl ?_
    refine zw_iload 0 dX8_areCrossing_30 rfl rfl ?_
    refine zw_iload_n 3 dX8_areCrossing_32 rfl rfl rfl ?_
    refine zw_icmp_eq (tg := 42) dX8_areCrossing_33 (by decide) rfl (fun c => ?_) (fun c => ?_)
    · have K := K.1 c
      refine zw_iload 0 dX8_areCrossing_42 rfl rfl ?_
      refine zw_iload 6 dX8_areCrossing_44 rfl rfl ?_
      refine zw_icmp_eq (tg := 56) dX8_areCrossing_46 (by decide) rfl (fun c => ?_) (fun c => ?_)
      · have K := K.1 c
        refine zw_iinc (v := (v6 + (1 : Int32))) 7 dX8_areCrossing_56 rfl rfl (by decide) rfl rfl ?_
        refine zw_goto (np := 10) dX8_areCrossing_59 (by decide) ?_
        exact zw.sub [2, 3, 4, 5, 6, 7, 0] rfl K
      · have K := K.2 c
        refine zw_iinc (v := (v4 + (1 : Int32))) 5 dX8_areCrossing_49 rfl rfl (by decide) rfl rfl ?_
        refine zw_iload 1 dX8_areCrossing_52 rfl rfl ?_
        refine zw_istore dX8_areCrossing_54 (by decide) rfl rfl ?_
        refine zw_iinc (v := (v6 + (1 : Int32))) 7 dX8_areCrossing_56 rfl rfl (by decide) rfl rfl ?_
        refine zw_goto (np := 10) dX8_areCrossing_59 (by decide) ?_
        exact zw.sub [4, 5, 6, 7, 2, 1, 0] rfl K
    · have K := K.2 c
      refine zw_iload 0 dX8_areCrossing_36 rfl rfl ?_
      refine zw_iload_n 4 dX8_areCrossing_38 rfl rfl rfl ?_
      refine zw_icmp_ne (tg := 56) dX8_areCrossing_39 (by decide) rfl (fun c => ?_) (fun c => ?_)
      · have K := K.1 c
        refine zw_iinc (v := (v6 + (1 : Int32))) 7 dX8_areCrossing_56 rfl rfl (by decide) rfl rfl ?_
        refine zw_goto (np := 10) dX8_areCrossing_59 (by decide) ?_
        exact zw.sub [2, 3, 4, 5, 6, 7, 0] rfl K
      · have K := K.2 c
        refine zw_iload 0 dX8_areCrossing_42 rfl rfl ?_
        refine zw_iload 6 dX8_areCrossing_44 rfl rfl ?_
        refine zw_icmp_eq (tg := 56) dX8_areCrossing_46 (by decide) rfl (fun c => ?_) (fun c => ?_)
        · have K := K.1 c
          refine zw_iinc (v := (v6 + (1 : Int32))) 7 dX8_areCrossing_56 rfl rfl (by decide) rfl rfl ?_
          refine zw_goto (np := 10) dX8_areCrossing_59 (by decide) ?_
          exact zw.sub [2, 3, 4, 5, 6, 7, 0] rfl K
        · have K := K.2 c
          refine zw_iinc (v := (v4 + (1 : Int32))) 5 dX8_areCrossing_49 rfl rfl (by decide) rfl rfl ?_
          refine zw_iload 1 dX8_areCrossing_52 rfl rfl ?_
          refine zw_istore dX8_areCrossing_54 (by decide) rfl rfl ?_
          refine zw_iinc (v := (v6 + (1 : Int32))) 7 dX8_areCrossing_56 rfl rfl (by decide) rfl rfl ?_
          refine zw_goto (np := 10) dX8_areCrossing_59 (by decide) ?_
          exact zw.sub [4, 5, 6, 7, 2, 1, 0] rfl K

set_option maxRecDepth 100000 in
set_option maxHeartbeats 4000000 in
theorem rX8_firstCrossing_0 {q : Int32 → zw_H → Prop} {h : zw_H} {v1 : Int32} (K : zwI 2 mX8_firstCrossing q 2 [(0, .ref 56), (1, .int v1), (2, .int (0 : Int32))] [] h) : zwI 2 mX8_firstCrossing q 0 [(0, .ref 56), (1, .int v1)] [] h := by
  refine zw_iconst (v := (0 : Int32)) dX8_firstCrossing_0 (by decide) rfl ?_
  refine zw_istore_n dX8_firstCrossing_1 rfl (by decide) rfl rfl ?_
  exact zw.sub [1, 2, 0] rfl K

set_option maxRecDepth 100000 in
set_option maxHeartbeats 4000000 in
theorem rX8_firstCrossing_2 {q : Int32 → zw_H → Prop} {h : zw_H} {v1 v2 : Int32} (K : (∃ j1 : Nat, v1 = nI j1 ∧ j1 < 203 ∧ (((h.1 60 j1) ≤ v2 → q (-9 : Int32) h) ∧ (¬ (h.1 60 j1) ≤ v2 → zwI 2 mX8_firstCrossing q 16 [(0, .ref 56), (1, .int v1), (2, .int v2), (3, .int (v2 + (1 : Int32)))] [] h)))) : zwI 2 mX8_firstCrossing q 2 [(0, .ref 56), (1, .int v1), (2, .int v2)] [] h := by
  refine zw_iload_n 2 dX8_firstCrossing_2 rfl rfl rfl ?_
  refine zw_aload_n 0 dX8_firstCrossing_3 rfl rfl rfl ?_
  refine zw_getR f_X8_19 dX8_firstCrossing_4 zs_56 rfl rfl ?_
  refine zw_iload_n 1 dX8_firstCrossing_7 rfl rfl rfl ?_
  obtain ⟨j1, hj1, hn1, K⟩ := K
  refine zw_iald j1 dX8_firstCrossing_8 zs_60 ⟨hj1, hn1⟩ (by decide) rfl ?_
  refine zw_icmp_ge (tg := 55) dX8_firstCrossing_9 (by decide) rfl (fun c => ?_) (fun c => ?_)
  · have K := K.1 c
    refine zw_bipush (v := (-9 : Int32)) dX8_firstCrossing_55 (by decide) rfl ?_
    exact zw_ireturn (ty := .int) dX8_firstCrossing_57 rfl rfl (Nat.le_refl 0) (Nat.le_refl 0) ⟨_, rfl, rfl, K⟩
  · have K := K.2 c
    refine zw_iload_n 2 dX8_firstCrossing_12 rfl rfl rfl ?_
    refine zw_iconst (v := (1 : Int32)) dX8_firstCrossing_13 (by decide) rfl ?_
    refine zw_iadd dX8_firstCrossing_14 rfl ?_
    refine zw_istore_n dX8_firstCrossing_15 rfl (by decide) rfl rfl ?_
    exact zw.sub [1, 2, 3, 0] rfl K

set_option maxRecDepth 100000 in
set_option maxHeartbeats 4000000 in
theorem rX8_firstCrossing_16 {q : Int32 → zw_H → Prop} {h : zw_H} {v1 v2 v3 : Int32} (K : (∃ j1 : Nat, v1 = nI j1 ∧ j1 < 203 ∧ (((h.1 60 j1) ≤ v3 → zwI 2 mX8_firstCrossing q 2 [(0, .ref 56), (1, .int v1), (2, .int (v2 + (1 : Int32)))] [] h) ∧ (¬ (h.1 60 j1) ≤ v3 → (∃ q2 : Int32 → zw_H → Prop, zcI 1 mX8_areCrossing [.ref 56, .int v1, .int v2, .int v3] h q2 ∧ (∀ (x2 : Int32) (h2 : zw_H), q2 x2 h2 → ((x2 = 0 → zwI 2 mX8_firstCrossing q 16 [(0, .ref 56), (1, .int v1), (2, .int v2), (3, .int (v3 + (1 : Int32)))] [] h2) ∧ (¬ x2 = 0 → q (((10 : Int32) * v2) + v3) h2)))))))) : zwI 2 mX8_firstCrossing q 16 [(0, .ref 56), (1, .int v1), (2, .int v2), (3, .int v3)] [] h := by
  refine zw_iload_n 3 dX8_firstCrossing_16 rfl rfl rfl ?_
  refine zw_aload_n 0 dX8_firstCrossing_17 rfl rfl rfl ?_
  refine zw_getR f_X8_19 dX8_firstCrossing_18 zs_56 rfl rfl ?_
  refine zw_iload_n 1 dX8_firstCrossing_21 rfl rfl rfl ?_
  obtain ⟨j1, hj1, hn1, K⟩ := K
  refine zw_iald j1 dX8_firstCrossing_22 zs_60 ⟨hj1, hn1⟩ (by decide) rfl ?_
  refine zw_icmp_ge (tg := 49) dX8_firstCrossing_23 (by decide) rfl (fun c => ?_) (fun c => ?_)
  · have K := K.1 c
    refine zw_iinc (v := (v2 + (1 : Int32))) 2 dX8_firstCrossing_49 rfl rfl (by decide) rfl rfl ?_
    refine zw_goto (np := 2) dX8_firstCrossing_52 (by decide) ?_
    exact zw.sub [1, 2, 0] rfl K
  · have K := K.2 c
    refine zw_aload_n 0 dX8_firstCrossing_26 rfl rfl rfl ?_
    refine zw_iload_n 1 dX8_firstCrossing_27 rfl rfl rfl ?_
    refine zw_iload_n 2 dX8_firstCrossing_28 rfl rfl rfl ?_
    refine zw_iload_n 3 dX8_firstCrossing_29 rfl rfl rfl ?_
    obtain ⟨q2, ct, K⟩ := K
    refine zw_callV (n := 3) (As := [.int v1, .int v2, .int v3]) (rest := []) ct my_X8_areCrossing rfl rfl k_X8_69 i_X8_areCrossing s_X8_areCrossing zs_56 rfl dX8_firstCrossing_30 (by decide) (Nat.le_of_ble_eq_true rfl) (Nat.le_refl 0) (Nat.le_refl 0) rfl (fun r s1 h2 hq => ?_)
    obtain ⟨x2, rfl, rfl, hq⟩ := hq
    have K := K x2 h2 hq
    refine zw.st (st' := [.int x2]) rfl ?_
    refine zw_if_eq (tg := 43) dX8_firstCrossing_33 (by decide) rfl (fun c => ?_) (fun c => ?_)
    · have K := K.1 c
      refine zw_iinc (v := (v3 + (1 : Int32))) 3 dX8_firstCrossing_43 rfl rfl (by decide) rfl rfl ?_
      refine zw_goto (np := 16) dX8_firstCrossing_46 (by decide) ?_
      exact zw.sub [1, 2, 3, 0] rfl K
    · have K := K.2 c
      refine zw_bipush (v := (10 : Int32)) dX8_firstCrossing_36 (by decide) rfl ?_
      refine zw_iload_n 2 dX8_firstCrossing_38 rfl rfl rfl ?_
      refine zw_imul dX8_firstCrossing_39 rfl ?_
      refine zw_iload_n 3 dX8_firstCrossing_40 rfl rfl rfl ?_
      refine zw_iadd dX8_firstCrossing_41 rfl ?_
      exact zw_ireturn (ty := .int) dX8_firstCrossing_42 rfl rfl (Nat.le_refl 0) (Nat.le_refl 0) ⟨_, rfl, rfl, K⟩

set_option maxRecDepth 100000 in
set_option maxHeartbeats 4000000 in
theorem rX8_bitOf_0 {q : Int32 → zw_H → Prop} {h : zw_H} {v0 v1 : Int32} (K : ((v1 ≤ v0 → ((v1 ≤ v0 → q ((1 : Int32) <<< ((((((v1 * ((11 : Int32) - v1)) / (2 : Int32)) + v0) - v1) - (1 : Int32)) &&& 31)) h) ∧ (¬ v1 ≤ v0 → q ((1 : Int32) <<< ((((((v1 * ((11 : Int32) - v1)) / (2 : Int32)) + v1) - v1) - (1 : Int32)) &&& 31)) h))) ∧ (¬ v1 ≤ v0 → ((v1 ≤ v0 → q ((1 : Int32) <<< ((((((v0 * ((11 : Int32) - v0)) / (2 : Int32)) + v0) - v0) - (1 : Int32)) &&& 31)) h) ∧ (¬ v1 ≤ v0 → q ((1 : Int32) <<< ((((((v0 * ((11 : Int32) - v0)) / (2 : Int32)) + v1) - v0) - (1 : Int32)) &&& 31)) h))))) : zwI 0 mX8_bitOf q 0 [(0, .int v0), (1, .int v1)] [] h := by
  refine zw_iload_n 0 dX8_bitOf_0 rfl rfl rfl ?_
  refine zw_iload_n 1 dX8_bitOf_1 rfl rfl rfl ?_
  refine zw_icmp_ge (tg := 9) dX8_bitOf_2 (by decide) rfl (fun c => ?_) (fun c => ?_)
  · have K := K.1 c
    refine zw_iload_n 1 dX8_bitOf_9 rfl rfl rfl ?_
    refine zw_istore_n dX8_bitOf_10 rfl (by decide) rfl rfl ?_
    refine zw_iload_n 1 dX8_bitOf_11 rfl rfl rfl ?_
    refine zw_iload_n 2 dX8_bitOf_12 rfl rfl rfl ?_
    refine zw_icmp_ge (tg := 20) dX8_bitOf_13 (by decide) rfl (fun c => ?_) (fun c => ?_)
    · have K := K.1 c
      refine zw_iload_n 1 dX8_bitOf_20 rfl rfl rfl ?_
      refine zw_istore_n dX8_bitOf_21 rfl (by decide) rfl rfl ?_
      refine zw_iconst (v := (1 : Int32)) dX8_bitOf_22 (by decide) rfl ?_
      refine zw_iload_n 1 dX8_bitOf_23 rfl rfl rfl ?_
      refine zw_bipush (v := (11 : Int32)) dX8_bitOf_24 (by decide) rfl ?_
      refine zw_iload_n 1 dX8_bitOf_26 rfl rfl rfl ?_
      refine zw_isub dX8_bitOf_27 rfl ?_
      refine zw_imul dX8_bitOf_28 rfl ?_
      refine zw_iconst (v := (2 : Int32)) dX8_bitOf_29 (by decide) rfl ?_
      refine zw_idiv dX8_bitOf_30 (by decide) rfl ?_
      refine zw_iload_n 0 dX8_bitOf_31 rfl rfl rfl ?_
      refine zw_iadd dX8_bitOf_32 rfl ?_
      refine zw_iload_n 1 dX8_bitOf_33 rfl rfl rfl ?_
      refine zw_isub dX8_bitOf_34 rfl ?_
      refine zw_iconst (v := (1 : Int32)) dX8_bitOf_35 (by decide) rfl ?_
      refine zw_isub dX8_bitOf_36 rfl ?_
      refine zw_ishl dX8_bitOf_37 rfl ?_
      exact zw_ireturn (ty := .int) dX8_bitOf_38 rfl rfl (Nat.le_refl 0) (Nat.le_refl 0) ⟨_, rfl, rfl, K⟩
    · have K := K.2 c
      refine zw_iload_n 2 dX8_bitOf_16 rfl rfl rfl ?_
      refine zw_goto (np := 21) dX8_bitOf_17 (by decide) ?_
      refine zw_istore_n dX8_bitOf_21 rfl (by decide) rfl rfl ?_
      refine zw_iconst (v := (1 : Int32)) dX8_bitOf_22 (by decide) rfl ?_
      refine zw_iload_n 1 dX8_bitOf_23 rfl rfl rfl ?_
      refine zw_bipush (v := (11 : Int32)) dX8_bitOf_24 (by decide) rfl ?_
      refine zw_iload_n 1 dX8_bitOf_26 rfl rfl rfl ?_
      refine zw_isub dX8_bitOf_27 rfl ?_
      refine zw_imul dX8_bitOf_28 rfl ?_
      refine zw_iconst (v := (2 : Int32)) dX8_bitOf_29 (by decide) rfl ?_
      refine zw_idiv dX8_bitOf_30 (by decide) rfl ?_
      refine zw_iload_n 0 dX8_bitOf_31 rfl rfl rfl ?_
      refine zw_iadd dX8_bitOf_32 rfl ?_
      refine zw_iload_n 1 dX8_bitOf_33 rfl rfl rfl ?_
      refine zw_isub dX8_bitOf_34 rfl ?_
      refine zw_iconst (v := (1 : Int32)) dX8_bitOf_35 (by decide) rfl ?_
      refine zw_isub dX8_bitOf_36 rfl ?_
      refine zw_ishl dX8_bitOf_37 rfl ?_
      exact zw_ireturn (ty := .int) dX8_bitOf_38 rfl rfl (Nat.le_refl 0) (Nat.le_refl 0) ⟨_, rfl, rfl, K⟩
  · have K := K.2 c
    refine zw_iload_n 0 dX8_bitOf_5 rfl rfl rfl ?_
    refine zw_goto (np := 10) dX8_bitOf_6 (by decide) ?_
    refine zw_istore_n dX8_bitOf_10 rfl (by decide) rfl rfl ?_
    refine zw_iload_n 1 dX8_bitOf_11 rfl rfl rfl ?_
    refine zw_iload_n 2 dX8_bitOf_12 rfl rfl rfl ?_
    refine zw_icmp_ge (tg := 20) dX8_bitOf_13 (by decide) rfl (fun c => ?_) (fun c => ?_)
    · have K := K.1 c
      refine zw_iload_n 1 dX8_bitOf_20 rfl rfl rfl ?_
      refine zw_istore_n dX8_bitOf_21 rfl (by decide) rfl rfl ?_
      refine zw_iconst (v := (1 : Int32)) dX8_bitOf_22 (by decide) rfl ?_
      refine zw_iload_n 1 dX8_bitOf_23 rfl rfl rfl ?_
      refine zw_bipush (v := (11 : Int32)) dX8_bitOf_24 (by decide) rfl ?_
      refine zw_iload_n 1 dX8_bitOf_26 rfl rfl rfl ?_
      refine zw_isub dX8_bitOf_27 rfl ?_
      refine zw_imul dX8_bitOf_28 rfl ?_
      refine zw_iconst (v := (2 : Int32)) dX8_bitOf_29 (by decide) rfl ?_
      refine zw_idiv dX8_bitOf_30 (by decide) rfl ?_
      refine zw_iload_n 0 dX8_bitOf_31 rfl rfl rfl ?_
      refine zw_iadd dX8_bitOf_32 rfl ?_
      refine zw_iload_n 1 dX8_bitOf_33 rfl rfl rfl ?_
      refine zw_isub dX8_bitOf_34 rfl ?_
      refine zw_iconst (v := (1 : Int32)) dX8_bitOf_35 (by decide) rfl ?_
      refine zw_isub dX8_bitOf_36 rfl ?_
      refine zw_ishl dX8_bitOf_37 rfl ?_
      exact zw_ireturn (ty := .int) dX8_bitOf_38 rfl rfl (Nat.le_refl 0) (Nat.le_refl 0) ⟨_, rfl, rfl, K⟩
    · have K := K.2 c
      refine zw_iload_n 2 dX8_bitOf_16 rfl rfl rfl ?_
      refine zw_goto (np := 21) dX8_bitOf_17 (by decide) ?_
      refine zw_istore_n dX8_bitOf_21 rfl (by decide) rfl rfl ?_
      refine zw_iconst (v := (1 : Int32)) dX8_bitOf_22 (by decide) rfl ?_
      refine zw_iload_n 1 dX8_bitOf_23 rfl rfl rfl ?_
      refine zw_bipush (v := (11 : Int32)) dX8_bitOf_24 (by decide) rfl ?_
      refine zw_iload_n 1 dX8_bitOf_26 rfl rfl rfl ?_
      refine zw_isub dX8_bitOf_27 rfl ?_
      refine zw_imul dX8_bitOf_28 rfl ?_
      refine zw_iconst (v := (2 : Int32)) dX8_bitOf_29 (by decide) rfl ?_
      refine zw_idiv dX8_bitOf_30 (by decide) rfl ?_
      refine zw_iload_n 0 dX8_bitOf_31 rfl rfl rfl ?_
      refine zw_iadd dX8_bitOf_32 rfl ?_
      refine zw_iload_n 1 dX8_bitOf_33 rfl rfl rfl ?_
      refine zw_isub dX8_bitOf_34 rfl ?_
      refine zw_iconst (v := (1 : Int32)) dX8_bitOf_35 (by decide) rfl ?_
      refine zw_isub dX8_bitOf_36 rfl ?_
      refine zw_ishl dX8_bitOf_37 rfl ?_
      exact zw_ireturn (ty := .int) dX8_bitOf_38 rfl rfl (Nat.le_refl 0) (Nat.le_refl 0) ⟨_, rfl, rfl, K⟩

set_option maxRecDepth 100000 in
set_option maxHeartbeats 4000000 in
theorem rX8_firstPair_0 {q : Int32 → zw_H → Prop} {h : zw_H} {v1 v2 v3 : Int32} (K : zwI 1 mX8_firstPair q 3 [(0, .ref 56), (1, .int v1), (2, .int v2), (3, .int v3), (4, .int (0 : Int32))] [] h) : zwI 1 mX8_firstPair q 0 [(0, .ref 56), (1, .int v1), (2, .int v2), (3, .int v3)] [] h := by
  refine zw_iconst (v := (0 : Int32)) dX8_firstPair_0 (by decide) rfl ?_
  refine zw_istore dX8_firstPair_1 (by decide) rfl rfl ?_
  exact zw.sub [1, 2, 3, 4, 0] rfl K

set_option maxRecDepth 100000 in
set_option maxHeartbeats 4000000 in
theorem rX8_firstPair_3 {q : Int32 → zw_H → Prop} {h : zw_H} {v1 v2 v3 v4 : Int32} (K : (((h.1 57 0) ≤ v4 → q (-9 : Int32) h) ∧ (¬ (h.1 57 0) ≤ v4 → zwI 1 mX8_firstPair q 20 [(0, .ref 56), (1, .int v1), (2, .int v2), (3, .int v3), (4, .int v4), (5, .int (v4 + (1 : Int32)))] [] h))) : zwI 1 mX8_firstPair q 3 [(0, .ref 56), (1, .int v1), (2, .int v2), (3, .int v3), (4, .int v4)] [] h := by
  refine zw_iload 4 dX8_firstPair_3 rfl rfl ?_
  refine zw_aload_n 0 dX8_firstPair_5 rfl rfl rfl ?_
  refine zw_getR f_X8_7 dX8_firstPair_6 zs_56 rfl rfl ?_
  refine zw_iconst (v := (0 : Int32)) dX8_firstPair_9 (by decide) rfl ?_
  refine zw_iald 0 dX8_firstPair_10 zs_57 ⟨by decide, by decide⟩ (by decide) rfl ?_
  refine zw_icmp_ge (tg := 90) dX8_firstPair_11 (by decide) rfl (fun c => ?_) (fun c => ?_)
  · have K := K.1 c
    refine zw_bipush (v := (-9 : Int32)) dX8_firstPair_90 (by decide) rfl ?_
    exact zw_ireturn (ty := .int) dX8_firstPair_92 rfl rfl (Nat.le_refl 0) (Nat.le_refl 0) ⟨_, rfl, rfl, K⟩
  · have K := K.2 c
    refine zw_iload 4 dX8_firstPair_14 rfl rfl ?_
    refine zw_iconst (v := (1 : Int32)) dX8_firstPair_16 (by decide) rfl ?_
    refine zw_iadd dX8_firstPair_17 rfl ?_
    refine zw_istore dX8_firstPair_18 (by decide) rfl rfl ?_
    exact zw.sub [1, 2, 3, 4, 5, 0] rfl K

set_option maxRecDepth 100000 in
set_option maxHeartbeats 4000000 in
theorem rX8_firstPair_20 {q : Int32 → zw_H → Prop} {h : zw_H} {v1 v2 v3 v4 v5 : Int32} (K : (((h.1 57 0) ≤ v5 → zwI 1 mX8_firstPair q 3 [(0, .ref 56), (1, .int v1), (2, .int v2), (3, .int v3), (4, .int (v4 + (1 : Int32)))] [] h) ∧ (¬ (h.1 57 0) ≤ v5 → (∃ q1 : Int32 → zw_H → Prop, zcI 0 mX8_bitOf [.int v4, .int v5] h q1 ∧ (∀ (x1 : Int32) (h1 : zw_H), q1 x1 h1 → (((v2 &&& x1) = 0 → zwI 1 mX8_firstPair q 20 [(0, .ref 56), (1, .int v1), (2, .int v2), (3, .int v3), (4, .int v4), (5, .int (v5 + (1 : Int32)))] [] h1) ∧ (¬ (v2 &&& x1) = 0 → (∃ q2 : Int32 → zw_H → Prop, zcI 0 mX8_at [.ref 56, .int v1, .int v4] h1 q2 ∧ (∀ (x2 : Int32) (h2 : zw_H), q2 x2 h2 → (∃ q3 : Int32 → zw_H → Prop, zcI 0 mX8_at [.ref 56, .int v1, .int v5] h2 q3 ∧ (∀ (x3 : Int32) (h3 : zw_H), q3 x3 h3 → ((¬ x2 = x3 → ((¬ (0 : Int32) = v3 → zwI 1 mX8_firstPair q 20 [(0, .ref 56), (1, .int v1), (2, .int v2), (3, .int v3), (4, .int v4), (5, .int (v5 + (1 : Int32)))] [] h3) ∧ ((0 : Int32) = v3 → q (((10 : Int32) * v4) + v5) h3))) ∧ (x2 = x3 → ((¬ (1 : Int32) = v3 → zwI 1 mX8_firstPair q 20 [(0, .ref 56), (1, .int v1), (2, .int v2), (3, .int v3), (4, .int v4), (5, .int (v5 + (1 : Int32)))] [] h3) ∧ ((1 : Int32) = v3 → q (((10 : Int32) * v4) + v5) h3))))))))))))))) : zwI 1 mX8_firstPair q 20 [(0, .ref 56), (1, .int v1), (2, .int v2), (3, .int v3), (4, .int v4), (5, .int v5)] [] h := by
  refine zw_iload 5 dX8_firstPair_20 rfl rfl ?_
  refine zw_aload_n 0 dX8_firstPair_22 rfl rfl rfl ?_
  refine zw_getR f_X8_7 dX8_firstPair_23 zs_56 rfl rfl ?_
  refine zw_iconst (v := (0 : Int32)) dX8_firstPair_26 (by decide) rfl ?_
  refine zw_iald 0 dX8_firstPair_27 zs_57 ⟨by decide, by decide⟩ (by decide) rfl ?_
  refine zw_icmp_ge (tg := 84) dX8_firstPair_28 (by decide) rfl (fun c => ?_) (fun c => ?_)
  · have K := K.1 c
    refine zw_iinc (v := (v4 + (1 : Int32))) 4 dX8_firstPair_84 rfl rfl (by decide) rfl rfl ?_
    refine zw_goto (np := 3) dX8_firstPair_87 (by decide) ?_
    exact zw.sub [1, 2, 3, 4, 0] rfl K
  · have K := K.2 c
    refine zw_iload_n 2 dX8_firstPair_31 rfl rfl rfl ?_
    refine zw_iload 4 dX8_firstPair_32 rfl rfl ?_
    refine zw_iload 5 dX8_firstPair_34 rfl rfl ?_
    obtain ⟨q1, ct, K⟩ := K
    refine zw_callS (n := 2) (As := [.int v4, .int v5]) (rest := [.int v2]) ct my_X8_bitOf rfl rfl k_X8_73 t_X8_bitOf dX8_firstPair_36 (by decide) (Nat.le_of_ble_eq_true rfl) (Nat.le_refl 0) (Nat.le_refl 0) rfl (fun r s1 h1 hq => ?_)
    obtain ⟨x1, rfl, rfl, hq⟩ := hq
    have K := K x1 h1 hq
    refine zw.st (st' := [.int x1, .int v2]) rfl ?_
    refine zw_iand dX8_firstPair_39 rfl ?_
    refine zw_if_eq (tg := 78) dX8_firstPair_40 (by decide) rfl (fun c => ?_) (fun c => ?_)
    · have K := K.1 c
      refine zw_iinc (v := (v5 + (1 : Int32))) 5 dX8_firstPair_78 rfl rfl (by decide) rfl rfl ?_
      refine zw_goto (np := 20) dX8_firstPair_81 (by decide) ?_
      exact zw.sub [1, 2, 3, 4, 5, 0] rfl K
    · have K := K.2 c
      refine zw_aload_n 0 dX8_firstPair_43 rfl rfl rfl ?_
      refine zw_iload_n 1 dX8_firstPair_44 rfl rfl rfl ?_
      refine zw_iload 4 dX8_firstPair_45 rfl rfl ?_
      obtain ⟨q2, ct, K⟩ := K
      refine zw_callV (n := 2) (As := [.int v1, .int v4]) (rest := []) ct my_X8_at rfl rfl k_X8_65 i_X8_at s_X8_at zs_56 rfl dX8_firstPair_47 (by decide) (Nat.le_of_ble_eq_true rfl) (Nat.le_refl 0) (Nat.le_refl 0) rfl (fun r s1 h2 hq => ?_)
      obtain ⟨x2, rfl, rfl, hq⟩ := hq
      have K := K x2 h2 hq
      refine zw.st (st' := [.int x2]) rfl ?_
      refine zw_aload_n 0 dX8_firstPair_50 rfl rfl rfl ?_
      refine zw_iload_n 1 dX8_firstPair_51 rfl rfl rfl ?_
      refine zw_iload 5 dX8_firstPair_52 rfl rfl ?_
      obtain ⟨q3, ct, K⟩ := K
      refine zw_callV (n := 2) (As := [.int v1, .int v5]) (rest := [.int x2]) ct my_X8_at rfl rfl k_X8_65 i_X8_at s_X8_at zs_56 rfl dX8_firstPair_54 (by decide) (Nat.le_of_ble_eq_true rfl) (Nat.le_refl 0) (Nat.le_refl 0) rfl (fun r s1 h3 hq => ?_)
      obtain ⟨x3, rfl, rfl, hq⟩ := hq
      have K := K x3 h3 hq
      refine zw.st (st' := [.int x3, .int x2]) rfl ?_
      refine zw_icmp_ne (tg := 64) dX8_firstPair_57 (by decide) rfl (fun c => ?_) (fun c => ?_)
      · have K := K.1 c
        refine zw_iconst (v := (0 : Int32)) dX8_firstPair_64 (by decide) rfl ?_
        refine zw_iload_n 3 dX8_firstPair_65 rfl rfl rfl ?_
        refine zw_icmp_ne (tg := 78) dX8_firstPair_66 (by decide) rfl (fun c => ?_) (fun c => ?_)
        · have K := K.1 c
          refine zw_iinc (v := (v5 + (1 : Int32))) 5 dX8_firstPair_78 rfl rfl (by decide) rfl rfl ?_
          refine zw_goto (np := 20) dX8_firstPair_81 (by decide) ?_
          exact zw.sub [1, 2, 3, 4, 5, 0] rfl K
        · have K := K.2 c
          refine zw_bipush (v := (10 : Int32)) dX8_firstPair_69 (by decide) rfl ?_
          refine zw_iload 4 dX8_firstPair_71 rfl rfl ?_
          refine zw_imul dX8_firstPair_73 rfl ?_
          refine zw_iload 5 dX8_firstPair_74 rfl rfl ?_
          refine zw_iadd dX8_firstPair_76 rfl ?_
          exact zw_ireturn (ty := .int) dX8_firstPair_77 rfl rfl (Nat.le_refl 0) (Nat.le_refl 0) ⟨_, rfl, rfl, K⟩
      · have K := K.2 c
        refine zw_iconst (v := (1 : Int32)) dX8_firstPair_60 (by decide) rfl ?_
        refine zw_goto (np := 65) dX8_firstPair_61 (by decide) ?_
        refine zw_iload_n 3 dX8_firstPair_65 rfl rfl rfl ?_
        refine zw_icmp_ne (tg := 78) dX8_firstPair_66 (by decide) rfl (fun c => ?_) (fun c => ?_)
        · have K := K.1 c
          refine zw_iinc (v := (v5 + (1 : Int32))) 5 dX8_firstPair_78 rfl rfl (by decide) rfl rfl ?_
          refine zw_goto (np := 20) dX8_firstPair_81 (by decide) ?_
          exact zw.sub [1, 2, 3, 4, 5, 0] rfl K
        · have K := K.2 c
          refine zw_bipush (v := (10 : Int32)) dX8_firstPair_69 (by decide) rfl ?_
          refine zw_iload 4 dX8_firstPair_71 rfl rfl ?_
          refine zw_imul dX8_firstPair_73 rfl ?_
          refine zw_iload 5 dX8_firstPair_74 rfl rfl ?_
          refine zw_iadd dX8_firstPair_76 rfl ?_
          exact zw_ireturn (ty := .int) dX8_firstPair_77 rfl rfl (Nat.le_refl 0) (Nat.le_refl 0) ⟨_, rfl, rfl, K⟩

set_option maxRecDepth 100000 in
set_option maxHeartbeats 4000000 in
theorem rX8_firstSize_0 {q : Int32 → zw_H → Prop} {h : zw_H} {v1 : Int32} (K : zwI 2 mX8_firstSize q 2 [(0, .ref 56), (1, .int v1), (2, .int (0 : Int32))] [] h) : zwI 2 mX8_firstSize q 0 [(0, .ref 56), (1, .int v1)] [] h := by
  refine zw_iconst (v := (0 : Int32)) dX8_firstSize_0 (by decide) rfl ?_
  refine zw_istore_n dX8_firstSize_1 rfl (by decide) rfl rfl ?_
  exact zw.sub [1, 2, 0] rfl K

set_option maxRecDepth 100000 in
set_option maxHeartbeats 4000000 in
theorem rX8_firstSize_2 {q : Int32 → zw_H → Prop} {h : zw_H} {v1 v2 : Int32} (K : (∃ j1 : Nat, v1 = nI j1 ∧ j1 < 203 ∧ (((h.1 60 j1) ≤ v2 → q (-9 : Int32) h) ∧ (¬ (h.1 60 j1) ≤ v2 → (∃ q2 : Int32 → zw_H → Prop, zcI 1 mX8_sizeOf [.ref 56, .int v1, .int v2] h q2 ∧ (∀ (x2 : Int32) (h2 : zw_H), q2 x2 h2 → ((¬ (((h.1 57 1) >>> (x2 &&& 31)) &&& (1 : Int32)) = 0 → zwI 2 mX8_firstSize q 2 [(0, .ref 56), (1, .int v1), (2, .int (v2 + (1 : Int32)))] [] h2) ∧ ((((h.1 57 1) >>> (x2 &&& 31)) &&& (1 : Int32)) = 0 → q v2 h2)))))))) : zwI 2 mX8_firstSize q 2 [(0, .ref 56), (1, .int v1), (2, .int v2)] [] h := by
  refine zw_iload_n 2 dX8_firstSize_2 rfl rfl rfl ?_
  refine zw_aload_n 0 dX8_firstSize_3 rfl rfl rfl ?_
  refine zw_getR f_X8_19 dX8_firstSize_4 zs_56 rfl rfl ?_
  refine zw_iload_n 1 dX8_firstSize_7 rfl rfl rfl ?_
  obtain ⟨j1, hj1, hn1, K⟩ := K
  refine zw_iald j1 dX8_firstSize_8 zs_60 ⟨hj1, hn1⟩ (by decide) rfl ?_
  refine zw_icmp_ge (tg := 38) dX8_firstSize_9 (by decide) rfl (fun c => ?_) (fun c => ?_)
  · have K := K.1 c
    refine zw_bipush (v := (-9 : Int32)) dX8_firstSize_38 (by decide) rfl ?_
    exact zw_ireturn (ty := .int) dX8_firstSize_40 rfl rfl (Nat.le_refl 0) (Nat.le_refl 0) ⟨_, rfl, rfl, K⟩
  · have K := K.2 c
    refine zw_aload_n 0 dX8_firstSize_12 rfl rfl rfl ?_
    refine zw_getR f_X8_7 dX8_firstSize_13 zs_56 rfl rfl ?_
    refine zw_iconst (v := (1 : Int32)) dX8_firstSize_16 (by decide) rfl ?_
    refine zw_iald 1 dX8_firstSize_17 zs_57 ⟨by decide, by decide⟩ (by decide) rfl ?_
    refine zw_aload_n 0 dX8_firstSize_18 rfl rfl rfl ?_
    refine zw_iload_n 1 dX8_firstSize_19 rfl rfl rfl ?_
    refine zw_iload_n 2 dX8_firstSize_20 rfl rfl rfl ?_
    obtain ⟨q2, ct, K⟩ := K
    refine zw_callV (n := 2) (As := [.int v1, .int v2]) (rest := [.int (h.1 57 1)]) ct my_X8_sizeOf rfl rfl k_X8_76 i_X8_sizeOf s_X8_sizeOf zs_56 rfl dX8_firstSize_21 (by decide) (Nat.le_of_ble_eq_true rfl) (Nat.le_refl 0) (Nat.le_refl 0) rfl (fun r s1 h2 hq => ?_)
    obtain ⟨x2, rfl, rfl, hq⟩ := hq
    have K := K x2 h2 hq
    refine zw.st (st' := [.int x2, .int (h.1 57 1)]) rfl ?_
    refine zw_ishr dX8_firstSize_24 rfl ?_
    refine zw_iconst (v := (1 : Int32)) dX8_firstSize_25 (by decide) rfl ?_
    refine zw_iand dX8_firstSize_26 rfl ?_
    refine zw_if_ne (tg := 32) dX8_firstSize_27 (by decide) rfl (fun c => ?_) (fun c => ?_)
    · have K := K.1 c
      refine zw_iinc (v := (v2 + (1 : Int32))) 2 dX8_firstSize_32 rfl rfl (by decide) rfl rfl ?_
      refine zw_goto (np := 2) dX8_firstSize_35 (by decide) ?_
      exact zw.sub [1, 2, 0] rfl K
    · have K := K.2 c
      refine zw_iload_n 2 dX8_firstSize_30 rfl rfl rfl ?_
      exact zw_ireturn (ty := .int) dX8_firstSize_31 rfl rfl (Nat.le_refl 0) (Nat.le_refl 0) ⟨_, rfl, rfl, K⟩

set_option maxRecDepth 100000 in
set_option maxHeartbeats 4000000 in
theorem rX8_reason_0 {q : Int32 → zw_H → Prop} {h : zw_H} {v1 : Int32} (K : (∃ q1 : Int32 → zw_H → Prop, zcI 2 mX8_firstSize [.ref 56, .int v1] h q1 ∧ (∀ (x1 : Int32) (h1 : zw_H), q1 x1 h1 → ((x1 = (-9 : Int32) → (∃ j2 : Nat, v1 = nI j2 ∧ j2 < 203 ∧ ((¬ (((h1.1 57 2) >>> ((h1.1 60 j2) &&& 31)) &&& (1 : Int32)) = 0 → (∃ q3 : Int32 → zw_H → Prop, zcI 1 mX8_firstPair [.ref 56, .int v1, .int (h1.1 57 3), .int (1 : Int32)] h1 q3 ∧ (∀ (x3 : Int32) (h3 : zw_H), q3 x3 h3 → ((x3 = (-9 : Int32) → (∃ q4 : Int32 → zw_H → Prop, zcI 1 mX8_firstPair [.ref 56, .int v1, .int (h3.1 57 4), .int (0 : Int32)] h3 q4 ∧ (∀ (x4 : Int32) (h4 : zw_H), q4 x4 h4 → ((x4 = (-9 : Int32) → ((¬ (h4.1 57 5) = (1 : Int32) → q (0 : Int32) h4) ∧ ((h4.1 57 5) = (1 : Int32) → (∃ q5 : Int32 → zw_H → Prop, zcI 2 mX8_firstCrossing [.ref 56, .int v1] h4 q5 ∧ (∀ (x5 : Int32) (h5 : zw_H), q5 x5 h5 → ((x5 = (-9 : Int32) → q (0 : Int32) h5) ∧ (¬ x5 = (-9 : Int32) → q (5 : Int32) h5))))))) ∧ (¬ x4 = (-9 : Int32) → q (4 : Int32) h4))))) ∧ (¬ x3 = (-9 : Int32) → q (3 : Int32) h3))))) ∧ ((((h1.1 57 2) >>> ((h1.1 60 j2) &&& 31)) &&& (1 : Int32)) = 0 → q (2 : Int32) h1)))) ∧ (¬ x1 = (-9 : Int32) → q (1 : Int32) h1))))) : zwI 3 mX8_reason q 0 [(0, .ref 56), (1, .int v1)] [] h := by
  refine zw_aload_n 0 dX8_reason_0 rfl rfl rfl ?_
  refine zw_iload_n 1 dX8_reason_1 rfl rfl rfl ?_
  obtain ⟨q1, ct, K⟩ := K
  refine zw_callV (n := 1) (As := [.int v1]) (rest := []) ct my_X8_firstSize rfl rfl k_X8_79 i_X8_firstSize s_X8_firstSize zs_56 rfl dX8_reason_2 (by decide) (Nat.le_of_ble_eq_true rfl) (Nat.le_refl 0) (Nat.le_refl 0) rfl (fun r s1 h1 hq => ?_)
  obtain ⟨x1, rfl, rfl, hq⟩ := hq
  have K := K x1 h1 hq
  refine zw.st (st' := [.int x1]) rfl ?_
  refine zw_bipush (v := (-9 : Int32)) dX8_reason_5 (by decide) rfl ?_
  refine zw_icmp_eq (tg := 12) dX8_reason_7 (by decide) rfl (fun c => ?_) (fun c => ?_)
  · have K := K.1 c
    refine zw_aload_n 0 dX8_reason_12 rfl rfl rfl ?_
    refine zw_getR f_X8_7 dX8_reason_13 zs_56 rfl rfl ?_
    refine zw_iconst (v := (2 : Int32)) dX8_reason_16 (by decide) rfl ?_
    refine zw_iald 2 dX8_reason_17 zs_57 ⟨by decide, by decide⟩ (by decide) rfl ?_
    refine zw_aload_n 0 dX8_reason_18 rfl rfl rfl ?_
    refine zw_getR f_X8_19 dX8_reason_19 zs_56 rfl rfl ?_
    refine zw_iload_n 1 dX8_reason_22 rfl rfl rfl ?_
    obtain ⟨j2, hj2, hn2, K⟩ := K
    refine zw_iald j2 dX8_reason_23 zs_60 ⟨hj2, hn2⟩ (by decide) rfl ?_
    refine zw_ishr dX8_reason_24 rfl ?_
    refine zw_iconst (v := (1 : Int32)) dX8_reason_25 (by decide) rfl ?_
    refine zw_iand dX8_reason_26 rfl ?_
    refine zw_if_ne (tg := 32) dX8_reason_27 (by decide) rfl (fun c => ?_) (fun c => ?_)
    · have K := K.1 c
      refine zw_aload_n 0 dX8_reason_32 rfl rfl rfl ?_
      refine zw_iload_n 1 dX8_reason_33 rfl rfl rfl ?_
      refine zw_aload_n 0 dX8_reason_34 rfl rfl rfl ?_
      refine zw_getR f_X8_7 dX8_reason_35 zs_56 rfl rfl ?_
      refine zw_iconst (v := (3 : Int32)) dX8_reason_38 (by decide) rfl ?_
      refine zw_iald 3 dX8_reason_39 zs_57 ⟨by decide, by decide⟩ (by decide) rfl ?_
      refine zw_iconst (v := (1 : Int32)) dX8_reason_40 (by decide) rfl ?_
      obtain ⟨q3, ct, K⟩ := K
      refine zw_callV (n := 3) (As := [.int v1, .int (h1.1 57 3), .int (1 : Int32)]) (rest := []) ct my_X8_firstPair rfl rfl k_X8_82 i_X8_firstPair s_X8_firstPair zs_56 rfl dX8_reason_41 (by decide) (Nat.le_of_ble_eq_true rfl) (Nat.le_refl 0) (Nat.le_refl 0) rfl (fun r s1 h3 hq => ?_)
      obtain ⟨x3, rfl, rfl, hq⟩ := hq
      have K := K x3 h3 hq
      refine zw.st (st' := [.int x3]) rfl ?_
      refine zw_bipush (v := (-9 : Int32)) dX8_reason_44 (by decide) rfl ?_
      refine zw_icmp_eq (tg := 51) dX8_reason_46 (by decide) rfl (fun c => ?_) (fun c => ?_)
      · have K := K.1 c
        refine zw_aload_n 0 dX8_reason_51 rfl rfl rfl ?_
        refine zw_iload_n 1 dX8_reason_52 rfl rfl rfl ?_
        refine zw_aload_n 0 dX8_reason_53 rfl rfl rfl ?_
        refine zw_getR f_X8_7 dX8_reason_54 zs_56 rfl rfl ?_
        refine zw_iconst (v := (4 : Int32)) dX8_reason_57 (by decide) rfl ?_
        refine zw_iald 4 dX8_reason_58 zs_57 ⟨by decide, by decide⟩ (by decide) rfl ?_
        refine zw_iconst (v := (0 : Int32)) dX8_reason_59 (by decide) rfl ?_
        obtain ⟨q4, ct, K⟩ := K
        refine zw_callV (n := 3) (As := [.int v1, .int (h3.1 57 4), .int (0 : Int32)]) (rest := []) ct my_X8_firstPair rfl rfl k_X8_82 i_X8_firstPair s_X8_firstPair zs_56 rfl dX8_reason_60 (by decide) (Nat.le_of_ble_eq_true rfl) (Nat.le_refl 0) (Nat.le_refl 0) rfl (fun r s1 h4 hq => ?_)
        obtain ⟨x4, rfl, rfl, hq⟩ := hq
        have K := K x4 h4 hq
        refine zw.st (st' := [.int x4]) rfl ?_
        refine zw_bipush (v := (-9 : Int32)) dX8_reason_63 (by decide) rfl ?_
        refine zw_icmp_eq (tg := 70) dX8_reason_65 (by decide) rfl (fun c => ?_) (fun c => ?_)
        · have K := K.1 c
          refine zw_aload_n 0 dX8_reason_70 rfl rfl rfl ?_
          refine zw_getR f_X8_7 dX8_reason_71 zs_56 rfl rfl ?_
          refine zw_iconst (v := (5 : Int32)) dX8_reason_74 (by decide) rfl ?_
          refine zw_iald 5 dX8_reason_75 zs_57 ⟨by decide, by decide⟩ (by decide) rfl ?_
          refine zw_iconst (v := (1 : Int32)) dX8_reason_76 (by decide) rfl ?_
          refine zw_icmp_ne (tg := 94) dX8_reason_77 (by decide) rfl (fun c => ?_) (fun c => ?_)
          · have K := K.1 c
            refine zw_iconst (v := (0 : Int32)) dX8_reason_94 (by decide) rfl ?_
            exact zw_ireturn (ty := .int) dX8_reason_95 rfl rfl (Nat.le_refl 0) (Nat.le_refl 0) ⟨_, rfl, rfl, K⟩
          · have K := K.2 c
            refine zw_aload_n 0 dX8_reason_80 rfl rfl rfl ?_
            refine zw_iload_n 1 dX8_reason_81 rfl rfl rfl ?_
            obtain ⟨q5, ct, K⟩ := K
            refine zw_callV (n := 1) (As := [.int v1]) (rest := []) ct my_X8_firstCrossing rfl rfl k_X8_86 i_X8_firstCrossing s_X8_firstCrossing zs_56 rfl dX8_reason_82 (by decide) (Nat.le_of_ble_eq_true rfl) (Nat.le_refl 0) (Nat.le_refl 0) rfl (fun r s1 h5 hq => ?_)
            obtain ⟨x5, rfl, rfl, hq⟩ := hq
            have K := K x5 h5 hq
            refine zw.st (st' := [.int x5]) rfl ?_
            refine zw_bipush (v := (-9 : Int32)) dX8_reason_85 (by decide) rfl ?_
            refine zw_icmp_eq (tg := 94) dX8_reason_87 (by decide) rfl (fun c => ?_) (fun c => ?_)
            · have K := K.1 c
              refine zw_iconst (v := (0 : Int32)) dX8_reason_94 (by decide) rfl ?_
              exact zw_ireturn (ty := .int) dX8_reason_95 rfl rfl (Nat.le_refl 0) (Nat.le_refl 0) ⟨_, rfl, rfl, K⟩
            · have K := K.2 c
              refine zw_iconst (v := (5 : Int32)) dX8_reason_90 (by decide) rfl ?_
              refine zw_goto (np := 95) dX8_reason_91 (by decide) ?_
              exact zw_ireturn (ty := .int) dX8_reason_95 rfl rfl (Nat.le_refl 0) (Nat.le_refl 0) ⟨_, rfl, rfl, K⟩
        · have K := K.2 c
          refine zw_iconst (v := (4 : Int32)) dX8_reason_68 (by decide) rfl ?_
          exact zw_ireturn (ty := .int) dX8_reason_69 rfl rfl (Nat.le_refl 0) (Nat.le_refl 0) ⟨_, rfl, rfl, K⟩
      · have K := K.2 c
        refine zw_iconst (v := (3 : Int32)) dX8_reason_49 (by decide) rfl ?_
        exact zw_ireturn (ty := .int) dX8_reason_50 rfl rfl (Nat.le_refl 0) (Nat.le_refl 0) ⟨_, rfl, rfl, K⟩
    · have K := K.2 c
      refine zw_iconst (v := (2 : Int32)) dX8_reason_30 (by decide) rfl ?_
      exact zw_ireturn (ty := .int) dX8_reason_31 rfl rfl (Nat.le_refl 0) (Nat.le_refl 0) ⟨_, rfl, rfl, K⟩
  · have K := K.2 c
    refine zw_iconst (v := (1 : Int32)) dX8_reason_10 (by decide) rfl ?_
    exact zw_ireturn (ty := .int) dX8_reason_11 rfl rfl (Nat.le_refl 0) (Nat.le_refl 0) ⟨_, rfl, rfl, K⟩

set_option maxRecDepth 100000 in
set_option maxHeartbeats 4000000 in
theorem rX8_placeOf_0 {q : Int32 → zw_H → Prop} {h : zw_H} {v1 : Int32} (K : (∃ q1 : Int32 → zw_H → Prop, zcI 3 mX8_reason [.ref 56, .int v1] h q1 ∧ (∀ (x1 : Int32) (h1 : zw_H), q1 x1 h1 → (((Int32.toInt x1 < 1 ∨ 5 < Int32.toInt x1) → q (-9 : Int32) h1) ∧ (x1 = (1 : Int32) → (∃ q2 : Int32 → zw_H → Prop, zcI 2 mX8_firstSize [.ref 56, .int v1] h1 q2 ∧ (∀ (x2 : Int32) (h2 : zw_H), q2 x2 h2 → q x2 h2))) ∧ (x1 = (2 : Int32) → (∃ j3 : Nat, v1 = nI j3 ∧ j3 < 203 ∧ q (h1.1 60 j3) h1)) ∧ (x1 = (3 : Int32) → (∃ q4 : Int32 → zw_H → Prop, zcI 1 mX8_firstPair [.ref 56, .int v1, .int (h1.1 57 3), .int (1 : Int32)] h1 q4 ∧ (∀ (x4 : Int32) (h4 : zw_H), q4 x4 h4 → q x4 h4))) ∧ (x1 = (4 : Int32) → (∃ q5 : Int32 → zw_H → Prop, zcI 1 mX8_firstPair [.ref 56, .int v1, .int (h1.1 57 4), .int (0 : Int32)] h1 q5 ∧ (∀ (x5 : Int32) (h5 : zw_H), q5 x5 h5 → q x5 h5))) ∧ (x1 = (5 : Int32) → (∃ q6 : Int32 → zw_H → Prop, zcI 2 mX8_firstCrossing [.ref 56, .int v1] h1 q6 ∧ (∀ (x6 : Int32) (h6 : zw_H), q6 x6 h6 → q x6 h6))))))) : zwI 4 mX8_placeOf q 0 [(0, .ref 56), (1, .int v1)] [] h := by
  refine zw_aload_n 0 dX8_placeOf_0 rfl rfl rfl ?_
  refine zw_iload_n 1 dX8_placeOf_1 rfl rfl rfl ?_
  obtain ⟨q1, ct, K⟩ := K
  refine zw_callV (n := 1) (As := [.int v1]) (rest := []) ct my_X8_reason rfl rfl k_X8_62 i_X8_reason s_X8_reason zs_56 rfl dX8_placeOf_2 (by decide) (Nat.le_of_ble_eq_true rfl) (Nat.le_refl 0) (Nat.le_refl 0) rfl (fun r s1 h1 hq => ?_)
  obtain ⟨x1, rfl, rfl, hq⟩ := hq
  have K := K x1 h1 hq
  refine zw.st (st' := [.int x1]) rfl ?_
  by_cases cs : Int32.toInt x1 < 1 ∨ 5 < Int32.toInt x1
  · have K := K.1 cs
    refine zw_tabOut (np := 85) dX8_placeOf_5 cs (by decide) ?_
    refine zw_bipush (v := (-9 : Int32)) dX8_placeOf_85 (by decide) rfl ?_
    exact zw_ireturn (ty := .int) dX8_placeOf_87 rfl rfl (Nat.le_refl 0) (Nat.le_refl 0) ⟨_, rfl, rfl, K⟩
  · have K := K.2
    have e : Int32.toInt x1 = 1 ∨ Int32.toInt x1 = 2 ∨ Int32.toInt x1 = 3 ∨ Int32.toInt x1 = 4 ∨ Int32.toInt x1 = 5 := by omega
    rcases e with e | e | e | e | e
    · have e2 : x1 = (1 : Int32) := zw_eqI e (by decide)
      have K := K.1 e2
      refine zw_tabIn (np := 40) (off := 35) dX8_placeOf_5 (by rw [e]; decide) (by rw [e]; decide) (by rw [e]; rfl) (by decide) ?_
      refine zw_aload_n 0 dX8_placeOf_40 rfl rfl rfl ?_
      refine zw_iload_n 1 dX8_placeOf_41 rfl rfl rfl ?_
      obtain ⟨q2, ct, K⟩ := K
      refine zw_callV (n := 1) (As := [.int v1]) (rest := []) ct my_X8_firstSize rfl rfl k_X8_79 i_X8_firstSize s_X8_firstSize zs_56 rfl dX8_placeOf_42 (by decide) (Nat.le_of_ble_eq_true rfl) (Nat.le_refl 0) (Nat.le_refl 0) rfl (fun r s1 h2 hq => ?_)
      obtain ⟨x2, rfl, rfl, hq⟩ := hq
      have K := K x2 h2 hq
      refine zw.st (st' := [.int x2]) rfl ?_
      exact zw_ireturn (ty := .int) dX8_placeOf_45 rfl rfl (Nat.le_refl 0) (Nat.le_refl 0) ⟨_, rfl, rfl, K⟩
    · have e2 : x1 = (2 : Int32) := zw_eqI e (by decide)
      have K := K.2.1 e2
      refine zw_tabIn (np := 46) (off := 41) dX8_placeOf_5 (by rw [e]; decide) (by rw [e]; decide) (by rw [e]; rfl) (by decide) ?_
      refine zw_aload_n 0 dX8_placeOf_46 rfl rfl rfl ?_
      refine zw_getR f_X8_19 dX8_placeOf_47 zs_56 rfl rfl ?_
      refine zw_iload_n 1 dX8_placeOf_50 rfl rfl rfl ?_
      obtain ⟨j3, hj3, hn3, K⟩ := K
      refine zw_iald j3 dX8_placeOf_51 zs_60 ⟨hj3, hn3⟩ (by decide) rfl ?_
      exact zw_ireturn (ty := .int) dX8_placeOf_52 rfl rfl (Nat.le_refl 0) (Nat.le_refl 0) ⟨_, rfl, rfl, K⟩
    · have e2 : x1 = (3 : Int32) := zw_eqI e (by decide)
      have K := K.2.2.1 e2
      refine zw_tabIn (np := 53) (off := 48) dX8_placeOf_5 (by rw [e]; decide) (by rw [e]; decide) (by rw [e]; rfl) (by decide) ?_
      refine zw_aload_n 0 dX8_placeOf_53 rfl rfl rfl ?_
      refine zw_iload_n 1 dX8_placeOf_54 rfl rfl rfl ?_
      refine zw_aload_n 0 dX8_placeOf_55 rfl rfl rfl ?_
      refine zw_getR f_X8_7 dX8_placeOf_56 zs_56 rfl rfl ?_
      refine zw_iconst (v := (3 : Int32)) dX8_placeOf_59 (by decide) rfl ?_
      refine zw_iald 3 dX8_placeOf_60 zs_57 ⟨by decide, by decide⟩ (by decide) rfl ?_
      refine zw_iconst (v := (1 : Int32)) dX8_placeOf_61 (by decide) rfl ?_
      obtain ⟨q4, ct, K⟩ := K
      refine zw_callV (n := 3) (As := [.int v1, .int (h1.1 57 3), .int (1 : Int32)]) (rest := []) ct my_X8_firstPair rfl rfl k_X8_82 i_X8_firstPair s_X8_firstPair zs_56 rfl dX8_placeOf_62 (by decide) (Nat.le_of_ble_eq_true rfl) (Nat.le_refl 0) (Nat.le_refl 0) rfl (fun r s1 h4 hq => ?_)
      obtain ⟨x4, rfl, rfl, hq⟩ := hq
      have K := K x4 h4 hq
      refine zw.st (st' := [.int x4]) rfl ?_
      exact zw_ireturn (ty := .int) dX8_placeOf_65 rfl rfl (Nat.le_refl 0) (Nat.le_refl 0) ⟨_, rfl, rfl, K⟩
    · have e2 : x1 = (4 : Int32) := zw_eqI e (by decide)
      have K := K.2.2.2.1 e2
      refine zw_tabIn (np := 66) (off := 61) dX8_placeOf_5 (by rw [e]; decide) (by rw [e]; decide) (by rw [e]; rfl) (by decide) ?_
      refine zw_aload_n 0 dX8_placeOf_66 rfl rfl rfl ?_
      refine zw_iload_n 1 dX8_placeOf_67 rfl rfl rfl ?_
      refine zw_aload_n 0 dX8_placeOf_68 rfl rfl rfl ?_
      refine zw_getR f_X8_7 dX8_placeOf_69 zs_56 rfl rfl ?_
      refine zw_iconst (v := (4 : Int32)) dX8_placeOf_72 (by decide) rfl ?_
      refine zw_iald 4 dX8_placeOf_73 zs_57 ⟨by decide, by decide⟩ (by decide) rfl ?_
      refine zw_iconst (v := (0 : Int32)) dX8_placeOf_74 (by decide) rfl ?_
      obtain ⟨q5, ct, K⟩ := K
      refine zw_callV (n := 3) (As := [.int v1, .int (h1.1 57 4), .int (0 : Int32)]) (rest := []) ct my_X8_firstPair rfl rfl k_X8_82 i_X8_firstPair s_X8_firstPair zs_56 rfl dX8_placeOf_75 (by decide) (Nat.le_of_ble_eq_true rfl) (Nat.le_refl 0) (Nat.le_refl 0) rfl (fun r s1 h5 hq => ?_)
      obtain ⟨x5, rfl, rfl, hq⟩ := hq
      have K := K x5 h5 hq
      refine zw.st (st' := [.int x5]) rfl ?_
      exact zw_ireturn (ty := .int) dX8_placeOf_78 rfl rfl (Nat.le_refl 0) (Nat.le_refl 0) ⟨_, rfl, rfl, K⟩
    · have e2 : x1 = (5 : Int32) := zw_eqI e (by decide)
      have K := K.2.2.2.2 e2
      refine zw_tabIn (np := 79) (off := 74) dX8_placeOf_5 (by rw [e]; decide) (by rw [e]; decide) (by rw [e]; rfl) (by decide) ?_
      refine zw_aload_n 0 dX8_placeOf_79 rfl rfl rfl ?_
      refine zw_iload_n 1 dX8_placeOf_80 rfl rfl rfl ?_
      obtain ⟨q6, ct, K⟩ := K
      refine zw_callV (n := 1) (As := [.int v1]) (rest := []) ct my_X8_firstCrossing rfl rfl k_X8_86 i_X8_firstCrossing s_X8_firstCrossing zs_56 rfl dX8_placeOf_81 (by decide) (Nat.le_of_ble_eq_true rfl) (Nat.le_refl 0) (Nat.le_refl 0) rfl (fun r s1 h6 hq => ?_)
      obtain ⟨x6, rfl, rfl, hq⟩ := hq
      have K := K x6 h6 hq
      refine zw.st (st' := [.int x6]) rfl ?_
      exact zw_ireturn (ty := .int) dX8_placeOf_84 rfl rfl (Nat.le_refl 0) (Nat.le_refl 0) ⟨_, rfl, rfl, K⟩

set_option maxRecDepth 100000 in
set_option maxHeartbeats 4000000 in
theorem rX8_isBelow_0 {q : Int32 → zw_H → Prop} {h : zw_H} {v1 v2 : Int32} (K : zwI 1 mX8_isBelow q 2 [(0, .ref 56), (1, .int v1), (2, .int v2), (3, .int (0 : Int32))] [] h) : zwI 1 mX8_isBelow q 0 [(0, .ref 56), (1, .int v1), (2, .int v2)] [] h := by
  refine zw_iconst (v := (0 : Int32)) dX8_isBelow_0 (by decide) rfl ?_
  refine zw_istore_n dX8_isBelow_1 rfl (by decide) rfl rfl ?_
  exact zw.sub [1, 2, 3, 0] rfl K

set_option maxRecDepth 100000 in
set_option maxHeartbeats 4000000 in
theorem rX8_isBelow_2 {q : Int32 → zw_H → Prop} {h : zw_H} {v1 v2 v3 : Int32} (K : (((h.1 57 0) ≤ v3 → q (1 : Int32) h) ∧ (¬ (h.1 57 0) ≤ v3 → zwI 1 mX8_isBelow q 15 [(0, .ref 56), (1, .int v1), (2, .int v2), (3, .int v3), (4, .int (0 : Int32))] [] h))) : zwI 1 mX8_isBelow q 2 [(0, .ref 56), (1, .int v1), (2, .int v2), (3, .int v3)] [] h := by
  refine zw_iload_n 3 dX8_isBelow_2 rfl rfl rfl ?_
  refine zw_aload_n 0 dX8_isBelow_3 rfl rfl rfl ?_
  refine zw_getR f_X8_7 dX8_isBelow_4 zs_56 rfl rfl ?_
  refine zw_iconst (v := (0 : Int32)) dX8_isBelow_7 (by decide) rfl ?_
  refine zw_iald 0 dX8_isBelow_8 zs_57 ⟨by decide, by decide⟩ (by decide) rfl ?_
  refine zw_icmp_ge (tg := 67) dX8_isBelow_9 (by decide) rfl (fun c => ?_) (fun c => ?_)
  · have K := K.1 c
    refine zw_iconst (v := (1 : Int32)) dX8_isBelow_67 (by decide) rfl ?_
    exact zw_ireturn (ty := .boolean) dX8_isBelow_68 rfl rfl (Nat.le_refl 0) (Nat.le_refl 0) ⟨_, rfl, rfl, K⟩
  · have K := K.2 c
    refine zw_iconst (v := (0 : Int32)) dX8_isBelow_12 (by decide) rfl ?_
    refine zw_istore dX8_isBelow_13 (by decide) rfl rfl ?_
    exact zw.sub [1, 2, 3, 4, 0] rfl K

set_option maxRecDepth 100000 in
set_option maxHeartbeats 4000000 in
theorem rX8_isBelow_15 {q : Int32 → zw_H → Prop} {h : zw_H} {v1 v2 v3 v4 : Int32} (K : ((v3 ≤ v4 → zwI 1 mX8_isBelow q 2 [(0, .ref 56), (1, .int v1), (2, .int v2), (3, .int (v3 + (1 : Int32)))] [] h) ∧ (¬ v3 ≤ v4 → (∃ q1 : Int32 → zw_H → Prop, zcI 0 mX8_at [.ref 56, .int v1, .int v3] h q1 ∧ (∀ (x1 : Int32) (h1 : zw_H), q1 x1 h1 → (∃ q2 : Int32 → zw_H → Prop, zcI 0 mX8_at [.ref 56, .int v1, .int v4] h1 q2 ∧ (∀ (x2 : Int32) (h2 : zw_H), q2 x2 h2 → ((¬ x1 = x2 → zwI 1 mX8_isBelow q 15 [(0, .ref 56), (1, .int v1), (2, .int v2), (3, .int v3), (4, .int (v4 + (1 : Int32)))] [] h2) ∧ (x1 = x2 → (∃ q3 : Int32 → zw_H → Prop, zcI 0 mX8_at [.ref 56, .int v2, .int v3] h2 q3 ∧ (∀ (x3 : Int32) (h3 : zw_H), q3 x3 h3 → (∃ q4 : Int32 → zw_H → Prop, zcI 0 mX8_at [.ref 56, .int v2, .int v4] h3 q4 ∧ (∀ (x4 : Int32) (h4 : zw_H), q4 x4 h4 → ((x3 = x4 → zwI 1 mX8_isBelow q 15 [(0, .ref 56), (1, .int v1), (2, .int v2), (3, .int v3), (4, .int (v4 + (1 : Int32)))] [] h4) ∧ (¬ x3 = x4 → q (0 : Int32) h4))))))))))))))) : zwI 1 mX8_isBelow q 15 [(0, .ref 56), (1, .int v1), (2, .int v2), (3, .int v3), (4, .int v4)] [] h := by
  refine zw_iload 4 dX8_isBelow_15 rfl rfl ?_
  refine zw_iload_n 3 dX8_isBelow_17 rfl rfl rfl ?_
  refine zw_icmp_ge (tg := 61) dX8_isBelow_18 (by decide) rfl (fun c => ?_) (fun c => ?_)
  · have K := K.1 c
    refine zw_iinc (v := (v3 + (1 : Int32))) 3 dX8_isBelow_61 rfl rfl (by decide) rfl rfl ?_
    refine zw_goto (np := 2) dX8_isBelow_64 (by decide) ?_
    exact zw.sub [1, 2, 3, 0] rfl K
  · have K := K.2 c
    refine zw_aload_n 0 dX8_isBelow_21 rfl rfl rfl ?_
    refine zw_iload_n 1 dX8_isBelow_22 rfl rfl rfl ?_
    refine zw_iload_n 3 dX8_isBelow_23 rfl rfl rfl ?_
    obtain ⟨q1, ct, K⟩ := K
    refine zw_callV (n := 2) (As := [.int v1, .int v3]) (rest := []) ct my_X8_at rfl rfl k_X8_65 i_X8_at s_X8_at zs_56 rfl dX8_isBelow_24 (by decide) (Nat.le_of_ble_eq_true rfl) (Nat.le_refl 0) (Nat.le_refl 0) rfl (fun r s1 h1 hq => ?_)
    obtain ⟨x1, rfl, rfl, hq⟩ := hq
    have K := K x1 h1 hq
    refine zw.st (st' := [.int x1]) rfl ?_
    refine zw_aload_n 0 dX8_isBelow_27 rfl rfl rfl ?_
    refine zw_iload_n 1 dX8_isBelow_28 rfl rfl rfl ?_
    refine zw_iload 4 dX8_isBelow_29 rfl rfl ?_
    obtain ⟨q2, ct, K⟩ := K
    refine zw_callV (n := 2) (As := [.int v1, .int v4]) (rest := [.int x1]) ct my_X8_at rfl rfl k_X8_65 i_X8_at s_X8_at zs_56 rfl dX8_isBelow_31 (by decide) (Nat.le_of_ble_eq_true rfl) (Nat.le_refl 0) (Nat.le_refl 0) rfl (fun r s1 h2 hq => ?_)
    obtain ⟨x2, rfl, rfl, hq⟩ := hq
    have K := K x2 h2 hq
    refine zw.st (st' := [.int x2, .int x1]) rfl ?_
    refine zw_icmp_ne (tg := 55) dX8_isBelow_34 (by decide) rfl (fun c => ?_) (fun c => ?_)
    · have K := K.1 c
      refine zw_iinc (v := (v4 + (1 : Int32))) 4 dX8_isBelow_55 rfl rfl (by decide) rfl rfl ?_
      refine zw_goto (np := 15) dX8_isBelow_58 (by decide) ?_
      exact zw.sub [1, 2, 3, 4, 0] rfl K
    · have K := K.2 c
      refine zw_aload_n 0 dX8_isBelow_37 rfl rfl rfl ?_
      refine zw_iload_n 2 dX8_isBelow_38 rfl rfl rfl ?_
      refine zw_iload_n 3 dX8_isBelow_39 rfl rfl rfl ?_
      obtain ⟨q3, ct, K⟩ := K
      refine zw_callV (n := 2) (As := [.int v2, .int v3]) (rest := []) ct my_X8_at rfl rfl k_X8_65 i_X8_at s_X8_at zs_56 rfl dX8_isBelow_40 (by decide) (Nat.le_of_ble_eq_true rfl) (Nat.le_refl 0) (Nat.le_refl 0) rfl (fun r s1 h3 hq => ?_)
      obtain ⟨x3, rfl, rfl, hq⟩ := hq
      have K := K x3 h3 hq
      refine zw.st (st' := [.int x3]) rfl ?_
      refine zw_aload_n 0 dX8_isBelow_43 rfl rfl rfl ?_
      refine zw_iload_n 2 dX8_isBelow_44 rfl rfl rfl ?_
      refine zw_iload 4 dX8_isBelow_45 rfl rfl ?_
      obtain ⟨q4, ct, K⟩ := K
      refine zw_callV (n := 2) (As := [.int v2, .int v4]) (rest := [.int x3]) ct my_X8_at rfl rfl k_X8_65 i_X8_at s_X8_at zs_56 rfl dX8_isBelow_47 (by decide) (Nat.le_of_ble_eq_true rfl) (Nat.le_refl 0) (Nat.le_refl 0) rfl (fun r s1 h4 hq => ?_)
      obtain ⟨x4, rfl, rfl, hq⟩ := hq
      have K := K x4 h4 hq
      refine zw.st (st' := [.int x4, .int x3]) rfl ?_
      refine zw_icmp_eq (tg := 55) dX8_isBelow_50 (by decide) rfl (fun c => ?_) (fun c => ?_)
      · have K := K.1 c
        refine zw_iinc (v := (v4 + (1 : Int32))) 4 dX8_isBelow_55 rfl rfl (by decide) rfl rfl ?_
        refine zw_goto (np := 15) dX8_isBelow_58 (by decide) ?_
        exact zw.sub [1, 2, 3, 4, 0] rfl K
      · have K := K.2 c
        refine zw_iconst (v := (0 : Int32)) dX8_isBelow_53 (by decide) rfl ?_
        exact zw_ireturn (ty := .boolean) dX8_isBelow_54 rfl rfl (Nat.le_refl 0) (Nat.le_refl 0) ⟨_, rfl, rfl, K⟩

set_option maxRecDepth 100000 in
set_option maxHeartbeats 4000000 in
theorem rX8_isStrictly_0 {q : Int32 → zw_H → Prop} {h : zw_H} {v1 v2 : Int32} (K : ((v1 = v2 → q (0 : Int32) h) ∧ (¬ v1 = v2 → (∃ q1 : Int32 → zw_H → Prop, zcI 1 mX8_isBelow [.ref 56, .int v1, .int v2] h q1 ∧ (∀ (x1 : Int32) (h1 : zw_H), q1 x1 h1 → ((x1 = 0 → q (0 : Int32) h1) ∧ (¬ x1 = 0 → q (1 : Int32) h1))))))) : zwI 2 mX8_isStrictly q 0 [(0, .ref 56), (1, .int v1), (2, .int v2)] [] h := by
  refine zw_iload_n 1 dX8_isStrictly_0 rfl rfl rfl ?_
  refine zw_iload_n 2 dX8_isStrictly_1 rfl rfl rfl ?_
  refine zw_icmp_eq (tg := 18) dX8_isStrictly_2 (by decide) rfl (fun c => ?_) (fun c => ?_)
  · have K := K.1 c
    refine zw_iconst (v := (0 : Int32)) dX8_isStrictly_18 (by decide) rfl ?_
    exact zw_ireturn (ty := .boolean) dX8_isStrictly_19 rfl rfl (Nat.le_refl 0) (Nat.le_refl 0) ⟨_, rfl, rfl, K⟩
  · have K := K.2 c
    refine zw_aload_n 0 dX8_isStrictly_5 rfl rfl rfl ?_
    refine zw_iload_n 1 dX8_isStrictly_6 rfl rfl rfl ?_
    refine zw_iload_n 2 dX8_isStrictly_7 rfl rfl rfl ?_
    obtain ⟨q1, ct, K⟩ := K
    refine zw_callV (n := 2) (As := [.int v1, .int v2]) (rest := []) ct my_X8_isBelow rfl rfl k_X8_89 i_X8_isBelow s_X8_isBelow zs_56 rfl dX8_isStrictly_8 (by decide) (Nat.le_of_ble_eq_true rfl) (Nat.le_refl 0) (Nat.le_refl 0) rfl (fun r s1 h1 hq => ?_)
    obtain ⟨x1, rfl, rfl, hq⟩ := hq
    have K := K x1 h1 hq
    refine zw.st (st' := [.int x1]) rfl ?_
    refine zw_if_eq (tg := 18) dX8_isStrictly_11 (by decide) rfl (fun c => ?_) (fun c => ?_)
    · have K := K.1 c
      refine zw_iconst (v := (0 : Int32)) dX8_isStrictly_18 (by decide) rfl ?_
      exact zw_ireturn (ty := .boolean) dX8_isStrictly_19 rfl rfl (Nat.le_refl 0) (Nat.le_refl 0) ⟨_, rfl, rfl, K⟩
    · have K := K.2 c
      refine zw_iconst (v := (1 : Int32)) dX8_isStrictly_14 (by decide) rfl ?_
      refine zw_goto (np := 19) dX8_isStrictly_15 (by decide) ?_
      exact zw_ireturn (ty := .boolean) dX8_isStrictly_19 rfl rfl (Nat.le_refl 0) (Nat.le_refl 0) ⟨_, rfl, rfl, K⟩

set_option maxRecDepth 100000 in
set_option maxHeartbeats 4000000 in
theorem rX8_rank_0 {q : Int32 → zw_H → Prop} {h : zw_H} {v1 : Int32} (K : (∃ j1 : Nat, v1 = nI j1 ∧ j1 < 203 ∧ q ((h.1 57 0) - (h.1 60 j1)) h)) : zwI 0 mX8_rank q 0 [(0, .ref 56), (1, .int v1)] [] h := by
  refine zw_aload_n 0 dX8_rank_0 rfl rfl rfl ?_
  refine zw_getR f_X8_7 dX8_rank_1 zs_56 rfl rfl ?_
  refine zw_iconst (v := (0 : Int32)) dX8_rank_4 (by decide) rfl ?_
  refine zw_iald 0 dX8_rank_5 zs_57 ⟨by decide, by decide⟩ (by decide) rfl ?_
  refine zw_aload_n 0 dX8_rank_6 rfl rfl rfl ?_
  refine zw_getR f_X8_19 dX8_rank_7 zs_56 rfl rfl ?_
  refine zw_iload_n 1 dX8_rank_10 rfl rfl rfl ?_
  obtain ⟨j1, hj1, hn1, K⟩ := K
  refine zw_iald j1 dX8_rank_11 zs_60 ⟨hj1, hn1⟩ (by decide) rfl ?_
  refine zw_isub dX8_rank_12 rfl ?_
  exact zw_ireturn (ty := .int) dX8_rank_13 rfl rfl (Nat.le_refl 0) (Nat.le_refl 0) ⟨_, rfl, rfl, K⟩

set_option maxRecDepth 100000 in
set_option maxHeartbeats 4000000 in
theorem rX8_sets_0 {q : Int32 → zw_H → Prop} {h : zw_H} {v1 v2 : Int32} (K : (∃ q1 : zw_H → Prop, zcV 0 mX8_begins [.ref 56] h q1 ∧ (∀ h1 : zw_H, q1 h1 → (∃ j2 : Nat, v1 = nI j2 ∧ j2 < 154 ∧ (∃ j3 : Nat, v1 = nI j3 ∧ j3 < 154 ∧ ∀ h4 : zw_H, h4 = zw_sI h1 57 j3 v2 → (∃ q5 : zw_H → Prop, zcV 4 mX8_admits [.ref 56] h4 q5 ∧ (∀ h5 : zw_H, q5 h5 → q (h1.1 57 j2) h5))))))) : zwI 5 mX8_sets q 0 [(0, .ref 56), (1, .int v1), (2, .int v2)] [] h := by
  refine zw_aload_n 0 dX8_sets_0 rfl rfl rfl ?_
  obtain ⟨q1, ct, K⟩ := K
  refine zw_callV (n := 0) (As := []) (rest := []) ct my_X8_begins rfl rfl k_X8_93 i_X8_begins s_X8_begins zs_56 rfl dX8_sets_1 (by decide) (Nat.le_of_ble_eq_true rfl) (Nat.le_refl 0) (Nat.le_refl 0) rfl (fun r s1 h1 hq => ?_)
  obtain ⟨rfl, rfl, hq⟩ := hq
  have K := K h1 hq
  refine zw.st (st' := []) rfl ?_
  refine zw_aload_n 0 dX8_sets_4 rfl rfl rfl ?_
  refine zw_getR f_X8_7 dX8_sets_5 zs_56 rfl rfl ?_
  refine zw_iload_n 1 dX8_sets_8 rfl rfl rfl ?_
  obtain ⟨j2, hj2, hn2, K⟩ := K
  refine zw_iald j2 dX8_sets_9 zs_57 ⟨hj2, hn2⟩ (by decide) rfl ?_
  refine zw_istore_n dX8_sets_10 rfl (by decide) rfl rfl ?_
  refine zw_aload_n 1 dX8_sets_11 rfl rfl rfl ?_
  refine zw_getR f_X8_7 dX8_sets_12 zs_56 rfl rfl ?_
  refine zw_iload_n 2 dX8_sets_15 rfl rfl rfl ?_
  refine zw_iload_n 3 dX8_sets_16 rfl rfl rfl ?_
  obtain ⟨j3, hj3, hn3, K⟩ := K
  refine zw_iast j3 dX8_sets_17 zs_57 ⟨hj3, hn3⟩ (by decide) rfl ?_
  generalize e4 : zw_sI h1 57 j3 v2 = h4
  have K := K h4 e4.symm
  refine zw_aload_n 1 dX8_sets_18 rfl rfl rfl ?_
  obtain ⟨q5, ct, K⟩ := K
  refine zw_callV (n := 0) (As := []) (rest := []) ct my_X8_admits rfl rfl k_X8_45 i_X8_admits s_X8_admits zs_56 rfl dX8_sets_19 (by decide) (Nat.le_of_ble_eq_true rfl) (Nat.le_refl 0) (Nat.le_refl 0) rfl (fun r s1 h5 hq => ?_)
  obtain ⟨rfl, rfl, hq⟩ := hq
  have K := K h5 hq
  refine zw.st (st' := []) rfl ?_
  refine zw_iload_n 0 dX8_sets_22 rfl rfl rfl ?_
  exact zw_ireturn (ty := .int) dX8_sets_23 rfl rfl (Nat.le_refl 0) (Nat.le_refl 0) ⟨_, rfl, rfl, K⟩

set_option maxRecDepth 100000 in
set_option maxHeartbeats 4000000 in
theorem rX8_setSize_0 {q : Int32 → zw_H → Prop} {h : zw_H} {v1 : Int32} (K : (∃ q1 : Int32 → zw_H → Prop, zcI 0 mX8_in [.int v1, .int (1 : Int32), .int (6 : Int32)] h q1 ∧ (∀ (x1 : Int32) (h1 : zw_H), q1 x1 h1 → ((¬ x1 = 0 → (∃ q2 : zw_H → Prop, zcV 0 mX8_begins [.ref 56] h1 q2 ∧ (∀ h2 : zw_H, q2 h2 → (∃ q3 : zw_H → Prop, zcV 5 mX8_starts [.ref 56, .int v1] h2 q3 ∧ (∀ h3 : zw_H, q3 h3 → q (h2.1 57 0) h3))))) ∧ (x1 = 0 → q (-1 : Int32) h1))))) : zwI 6 mX8_setSize q 0 [(0, .ref 56), (1, .int v1)] [] h := by
  refine zw_iload_n 1 dX8_setSize_0 rfl rfl rfl ?_
  refine zw_iconst (v := (1 : Int32)) dX8_setSize_1 (by decide) rfl ?_
  refine zw_bipush (v := (6 : Int32)) dX8_setSize_2 (by decide) rfl ?_
  obtain ⟨q1, ct, K⟩ := K
  refine zw_callS (n := 3) (As := [.int v1, .int (1 : Int32), .int (6 : Int32)]) (rest := []) ct my_X8_in rfl rfl k_X8_96 t_X8_in dX8_setSize_4 (by decide) (Nat.le_of_ble_eq_true rfl) (Nat.le_refl 0) (Nat.le_refl 0) rfl (fun r s1 h1 hq => ?_)
  obtain ⟨x1, rfl, rfl, hq⟩ := hq
  have K := K x1 h1 hq
  refine zw.st (st' := [.int x1]) rfl ?_
  refine zw_if_ne (tg := 12) dX8_setSize_7 (by decide) rfl (fun c => ?_) (fun c => ?_)
  · have K := K.1 c
    refine zw_aload_n 0 dX8_setSize_12 rfl rfl rfl ?_
    obtain ⟨q2, ct, K⟩ := K
    refine zw_callV (n := 0) (As := []) (rest := []) ct my_X8_begins rfl rfl k_X8_93 i_X8_begins s_X8_begins zs_56 rfl dX8_setSize_13 (by decide) (Nat.le_of_ble_eq_true rfl) (Nat.le_refl 0) (Nat.le_refl 0) rfl (fun r s1 h2 hq => ?_)
    obtain ⟨rfl, rfl, hq⟩ := hq
    have K := K h2 hq
    refine zw.st (st' := []) rfl ?_
    refine zw_aload_n 0 dX8_setSize_16 rfl rfl rfl ?_
    refine zw_getR f_X8_7 dX8_setSize_17 zs_56 rfl rfl ?_
    refine zw_iconst (v := (0 : Int32)) dX8_setSize_20 (by decide) rfl ?_
    refine zw_iald 0 dX8_setSize_21 zs_57 ⟨by decide, by decide⟩ (by decide) rfl ?_
    refine zw_istore_n dX8_setSize_22 rfl (by decide) rfl rfl ?_
    refine zw_aload_n 1 dX8_setSize_23 rfl rfl rfl ?_
    refine zw_iload_n 2 dX8_setSize_24 rfl rfl rfl ?_
    obtain ⟨q3, ct, K⟩ := K
    refine zw_callV (n := 1) (As := [.int v1]) (rest := []) ct my_X8_starts rfl rfl k_X8_38 i_X8_starts s_X8_starts zs_56 rfl dX8_setSize_25 (by decide) (Nat.le_of_ble_eq_true rfl) (Nat.le_refl 0) (Nat.le_refl 0) rfl (fun r s1 h3 hq => ?_)
    obtain ⟨rfl, rfl, hq⟩ := hq
    have K := K h3 hq
    refine zw.st (st' := []) rfl ?_
    refine zw_iload_n 0 dX8_setSize_28 rfl rfl rfl ?_
    exact zw_ireturn (ty := .int) dX8_setSize_29 rfl rfl (Nat.le_refl 0) (Nat.le_refl 0) ⟨_, rfl, rfl, K⟩
  · have K := K.2 c
    refine zw_iconst (v := (-1 : Int32)) dX8_setSize_10 (by decide) rfl ?_
    exact zw_ireturn (ty := .int) dX8_setSize_11 rfl rfl (Nat.le_refl 0) (Nat.le_refl 0) ⟨_, rfl, rfl, K⟩

set_option maxRecDepth 100000 in
set_option maxHeartbeats 4000000 in
theorem rX8_setsBit_0 {q : Int32 → zw_H → Prop} {h : zw_H} {v1 v2 v3 : Int32} (K : ((v3 = 0 → (∃ j1 : Nat, v1 = nI j1 ∧ j1 < 154 ∧ (∃ q2 : Int32 → zw_H → Prop, zcI 5 mX8_sets [.ref 56, .int v1, .int ((h.1 57 j1) &&& (v2 ^^^ (-1 : Int32)))] h q2 ∧ (∀ (x2 : Int32) (h2 : zw_H), q2 x2 h2 → (((x2 &&& v2) = 0 → q (0 : Int32) h2) ∧ (¬ (x2 &&& v2) = 0 → q (1 : Int32) h2)))))) ∧ (¬ v3 = 0 → (∃ j3 : Nat, v1 = nI j3 ∧ j3 < 154 ∧ (∃ q4 : Int32 → zw_H → Prop, zcI 5 mX8_sets [.ref 56, .int v1, .int ((h.1 57 j3) ||| v2)] h q4 ∧ (∀ (x4 : Int32) (h4 : zw_H), q4 x4 h4 → (((x4 &&& v2) = 0 → q (0 : Int32) h4) ∧ (¬ (x4 &&& v2) = 0 → q (1 : Int32) h4)))))))) : zwI 6 mX8_setsBit q 0 [(0, .ref 56), (1, .int v1), (2, .int v2), (3, .int v3)] [] h := by
  refine zw_aload_n 0 dX8_setsBit_0 rfl rfl rfl ?_
  refine zw_iload_n 1 dX8_setsBit_1 rfl rfl rfl ?_
  refine zw_iload_n 3 dX8_setsBit_2 rfl rfl rfl ?_
  refine zw_if_eq (tg := 17) dX8_setsBit_3 (by decide) rfl (fun c => ?_) (fun c => ?_)
  · have K := K.1 c
    refine zw_aload_n 0 dX8_setsBit_17 rfl rfl rfl ?_
    refine zw_getR f_X8_7 dX8_setsBit_18 zs_56 rfl rfl ?_
    refine zw_iload_n 1 dX8_setsBit_21 rfl rfl rfl ?_
    obtain ⟨j1, hj1, hn1, K⟩ := K
    refine zw_iald j1 dX8_setsBit_22 zs_57 ⟨hj1, hn1⟩ (by decide) rfl ?_
    refine zw_iload_n 2 dX8_setsBit_23 rfl rfl rfl ?_
    refine zw_iconst (v := (-1 : Int32)) dX8_setsBit_24 (by decide) rfl ?_
    refine zw_ixor dX8_setsBit_25 rfl ?_
    refine zw_iand dX8_setsBit_26 rfl ?_
    obtain ⟨q2, ct, K⟩ := K
    refine zw_callV (n := 2) (As := [.int v1, .int ((h.1 57 j1) &&& (v2 ^^^ (-1 : Int32)))]) (rest := []) ct my_X8_sets rfl rfl k_X8_99 i_X8_sets s_X8_sets zs_56 rfl dX8_setsBit_27 (by decide) (Nat.le_of_ble_eq_true rfl) (Nat.le_refl 0) (Nat.le_refl 0) rfl (fun r s1 h2 hq => ?_)
    obtain ⟨x2, rfl, rfl, hq⟩ := hq
    have K := K x2 h2 hq
    refine zw.st (st' := [.int x2]) rfl ?_
    refine zw_istore dX8_setsBit_30 (by decide) rfl rfl ?_
    refine zw_iload 0 dX8_setsBit_32 rfl rfl ?_
    refine zw_iload_n 3 dX8_setsBit_34 rfl rfl rfl ?_
    refine zw_iand dX8_setsBit_35 rfl ?_
    refine zw_if_eq (tg := 43) dX8_setsBit_36 (by decide) rfl (fun c => ?_) (fun c => ?_)
    · have K := K.1 c
      refine zw_iconst (v := (0 : Int32)) dX8_setsBit_43 (by decide) rfl ?_
      exact zw_ireturn (ty := .int) dX8_setsBit_44 rfl rfl (Nat.le_refl 0) (Nat.le_refl 0) ⟨_, rfl, rfl, K⟩
    · have K := K.2 c
      refine zw_iconst (v := (1 : Int32)) dX8_setsBit_39 (by decide) rfl ?_
      refine zw_goto (np := 44) dX8_setsBit_40 (by decide) ?_
      exact zw_ireturn (ty := .int) dX8_setsBit_44 rfl rfl (Nat.le_refl 0) (Nat.le_refl 0) ⟨_, rfl, rfl, K⟩
  · have K := K.2 c
    refine zw_aload_n 0 dX8_setsBit_6 rfl rfl rfl ?_
    refine zw_getR f_X8_7 dX8_setsBit_7 zs_56 rfl rfl ?_
    refine zw_iload_n 1 dX8_setsBit_10 rfl rfl rfl ?_
    obtain ⟨j3, hj3, hn3, K⟩ := K
    refine zw_iald j3 dX8_setsBit_11 zs_57 ⟨hj3, hn3⟩ (by decide) rfl ?_
    refine zw_iload_n 2 dX8_setsBit_12 rfl rfl rfl ?_
    refine zw_ior dX8_setsBit_13 rfl ?_
    refine zw_goto (np := 27) dX8_setsBit_14 (by decide) ?_
    obtain ⟨q4, ct, K⟩ := K
    refine zw_callV (n := 2) (As := [.int v1, .int ((h.1 57 j3) ||| v2)]) (rest := []) ct my_X8_sets rfl rfl k_X8_99 i_X8_sets s_X8_sets zs_56 rfl dX8_setsBit_27 (by decide) (Nat.le_of_ble_eq_true rfl) (Nat.le_refl 0) (Nat.le_refl 0) rfl (fun r s1 h4 hq => ?_)
    obtain ⟨x4, rfl, rfl, hq⟩ := hq
    have K := K x4 h4 hq
    refine zw.st (st' := [.int x4]) rfl ?_
    refine zw_istore dX8_setsBit_30 (by decide) rfl rfl ?_
    refine zw_iload 0 dX8_setsBit_32 rfl rfl ?_
    refine zw_iload_n 3 dX8_setsBit_34 rfl rfl rfl ?_
    refine zw_iand dX8_setsBit_35 rfl ?_
    refine zw_if_eq (tg := 43) dX8_setsBit_36 (by decide) rfl (fun c => ?_) (fun c => ?_)
    · have K := K.1 c
      refine zw_iconst (v := (0 : Int32)) dX8_setsBit_43 (by decide) rfl ?_
      exact zw_ireturn (ty := .int) dX8_setsBit_44 rfl rfl (Nat.le_refl 0) (Nat.le_refl 0) ⟨_, rfl, rfl, K⟩
    · have K := K.2 c
      refine zw_iconst (v := (1 : Int32)) dX8_setsBit_39 (by decide) rfl ?_
      refine zw_goto (np := 44) dX8_setsBit_40 (by decide) ?_
      exact zw_ireturn (ty := .int) dX8_setsBit_44 rfl rfl (Nat.le_refl 0) (Nat.le_refl 0) ⟨_, rfl, rfl, K⟩

set_option maxRecDepth 100000 in
set_option maxHeartbeats 4000000 in
theorem rX8_allowSize_0 {q : Int32 → zw_H → Prop} {h : zw_H} {v1 v2 : Int32} (K : (∃ q1 : Int32 → zw_H → Prop, zcI 0 mX8_in [.int v1, .int (1 : Int32), .int (6 : Int32)] h q1 ∧ (∀ (x1 : Int32) (h1 : zw_H), q1 x1 h1 → ((x1 = 0 → q (-1 : Int32) h1) ∧ (¬ x1 = 0 → (∃ q2 : Int32 → zw_H → Prop, zcI 6 mX8_setsBit [.ref 56, .int (1 : Int32), .int ((1 : Int32) <<< (v1 &&& 31)), .int v2] h1 q2 ∧ (∀ (x2 : Int32) (h2 : zw_H), q2 x2 h2 → q x2 h2))))))) : zwI 7 mX8_allowSize q 0 [(0, .ref 56), (1, .int v1), (2, .int v2)] [] h := by
  refine zw_iload_n 1 dX8_allowSize_0 rfl rfl rfl ?_
  refine zw_iconst (v := (1 : Int32)) dX8_allowSize_1 (by decide) rfl ?_
  refine zw_bipush (v := (6 : Int32)) dX8_allowSize_2 (by decide) rfl ?_
  obtain ⟨q1, ct, K⟩ := K
  refine zw_callS (n := 3) (As := [.int v1, .int (1 : Int32), .int (6 : Int32)]) (rest := []) ct my_X8_in rfl rfl k_X8_96 t_X8_in dX8_allowSize_4 (by decide) (Nat.le_of_ble_eq_true rfl) (Nat.le_refl 0) (Nat.le_refl 0) rfl (fun r s1 h1 hq => ?_)
  obtain ⟨x1, rfl, rfl, hq⟩ := hq
  have K := K x1 h1 hq
  refine zw.st (st' := [.int x1]) rfl ?_
  refine zw_if_eq (tg := 22) dX8_allowSize_7 (by decide) rfl (fun c => ?_) (fun c => ?_)
  · have K := K.1 c
    refine zw_iconst (v := (-1 : Int32)) dX8_allowSize_22 (by decide) rfl ?_
    exact zw_ireturn (ty := .int) dX8_allowSize_23 rfl rfl (Nat.le_refl 0) (Nat.le_refl 0) ⟨_, rfl, rfl, K⟩
  · have K := K.2 c
    refine zw_aload_n 0 dX8_allowSize_10 rfl rfl rfl ?_
    refine zw_iconst (v := (1 : Int32)) dX8_allowSize_11 (by decide) rfl ?_
    refine zw_iconst (v := (1 : Int32)) dX8_allowSize_12 (by decide) rfl ?_
    refine zw_iload_n 1 dX8_allowSize_13 rfl rfl rfl ?_
    refine zw_ishl dX8_allowSize_14 rfl ?_
    refine zw_iload_n 2 dX8_allowSize_15 rfl rfl rfl ?_
    obtain ⟨q2, ct, K⟩ := K
    refine zw_callV (n := 3) (As := [.int (1 : Int32), .int ((1 : Int32) <<< (v1 &&& 31)), .int v2]) (rest := []) ct my_X8_setsBit rfl rfl k_X8_102 i_X8_setsBit s_X8_setsBit zs_56 rfl dX8_allowSize_16 (by decide) (Nat.le_of_ble_eq_true rfl) (Nat.le_refl 0) (Nat.le_refl 0) rfl (fun r s1 h2 hq => ?_)
    obtain ⟨x2, rfl, rfl, hq⟩ := hq
    have K := K x2 h2 hq
    refine zw.st (st' := [.int x2]) rfl ?_
    refine zw_goto (np := 23) dX8_allowSize_19 (by decide) ?_
    exact zw_ireturn (ty := .int) dX8_allowSize_23 rfl rfl (Nat.le_refl 0) (Nat.le_refl 0) ⟨_, rfl, rfl, K⟩

set_option maxRecDepth 100000 in
set_option maxHeartbeats 4000000 in
theorem rX8_allowNumber_0 {q : Int32 → zw_H → Prop} {h : zw_H} {v1 v2 : Int32} (K : (∃ q1 : Int32 → zw_H → Prop, zcI 0 mX8_in [.int v1, .int (1 : Int32), .int (6 : Int32)] h q1 ∧ (∀ (x1 : Int32) (h1 : zw_H), q1 x1 h1 → ((x1 = 0 → q (-1 : Int32) h1) ∧ (¬ x1 = 0 → (∃ q2 : Int32 → zw_H → Prop, zcI 6 mX8_setsBit [.ref 56, .int (2 : Int32), .int ((1 : Int32) <<< (v1 &&& 31)), .int v2] h1 q2 ∧ (∀ (x2 : Int32) (h2 : zw_H), q2 x2 h2 → q x2 h2))))))) : zwI 7 mX8_allowNumber q 0 [(0, .ref 56), (1, .int v1), (2, .int v2)] [] h := by
  refine zw_iload_n 1 dX8_allowNumber_0 rfl rfl rfl ?_
  refine zw_iconst (v := (1 : Int32)) dX8_allowNumber_1 (by decide) rfl ?_
  refine zw_bipush (v := (6 : Int32)) dX8_allowNumber_2 (by decide) rfl ?_
  obtain ⟨q1, ct, K⟩ := K
  refine zw_callS (n := 3) (As := [.int v1, .int (1 : Int32), .int (6 : Int32)]) (rest := []) ct my_X8_in rfl rfl k_X8_96 t_X8_in dX8_allowNumber_4 (by decide) (Nat.le_of_ble_eq_true rfl) (Nat.le_refl 0) (Nat.le_refl 0) rfl (fun r s1 h1 hq => ?_)
  obtain ⟨x1, rfl, rfl, hq⟩ := hq
  have K := K x1 h1 hq
  refine zw.st (st' := [.int x1]) rfl ?_
  refine zw_if_eq (tg := 22) dX8_allowNumber_7 (by decide) rfl (fun c => ?_) (fun c => ?_)
  · have K := K.1 c
    refine zw_iconst (v := (-1 : Int32)) dX8_allowNumber_22 (by decide) rfl ?_
    exact zw_ireturn (ty := .int) dX8_allowNumber_23 rfl rfl (Nat.le_refl 0) (Nat.le_refl 0) ⟨_, rfl, rfl, K⟩
  · have K := K.2 c
    refine zw_aload_n 0 dX8_allowNumber_10 rfl rfl rfl ?_
    refine zw_iconst (v := (2 : Int32)) dX8_allowNumber_11 (by decide) rfl ?_
    refine zw_iconst (v := (1 : Int32)) dX8_allowNumber_12 (by decide) rfl ?_
    refine zw_iload_n 1 dX8_allowNumber_13 rfl rfl rfl ?_
    refine zw_ishl dX8_allowNumber_14 rfl ?_
    refine zw_iload_n 2 dX8_allowNumber_15 rfl rfl rfl ?_
    obtain ⟨q2, ct, K⟩ := K
    refine zw_callV (n := 3) (As := [.int (2 : Int32), .int ((1 : Int32) <<< (v1 &&& 31)), .int v2]) (rest := []) ct my_X8_setsBit rfl rfl k_X8_102 i_X8_setsBit s_X8_setsBit zs_56 rfl dX8_allowNumber_16 (by decide) (Nat.le_of_ble_eq_true rfl) (Nat.le_refl 0) (Nat.le_refl 0) rfl (fun r s1 h2 hq => ?_)
    obtain ⟨x2, rfl, rfl, hq⟩ := hq
    have K := K x2 h2 hq
    refine zw.st (st' := [.int x2]) rfl ?_
    refine zw_goto (np := 23) dX8_allowNumber_19 (by decide) ?_
    exact zw_ireturn (ty := .int) dX8_allowNumber_23 rfl rfl (Nat.le_refl 0) (Nat.le_refl 0) ⟨_, rfl, rfl, K⟩

set_option maxRecDepth 100000 in
set_option maxHeartbeats 4000000 in
theorem rX8_isElement_0 {q : Int32 → zw_H → Prop} {h : zw_H} {v1 : Int32} (K : (∃ q1 : Int32 → zw_H → Prop, zcI 0 mX8_in [.int v1, .int (0 : Int32), .int ((h.1 57 0) - (1 : Int32))] h q1 ∧ (∀ (x1 : Int32) (h1 : zw_H), q1 x1 h1 → ((x1 = 0 ∨ x1 = 1) ∧ q x1 h1)))) : zwI 1 mX8_isElement q 0 [(0, .ref 56), (1, .int v1)] [] h := by
  refine zw_iload_n 1 dX8_isElement_0 rfl rfl rfl ?_
  refine zw_iconst (v := (0 : Int32)) dX8_isElement_1 (by decide) rfl ?_
  refine zw_aload_n 0 dX8_isElement_2 rfl rfl rfl ?_
  refine zw_getR f_X8_7 dX8_isElement_3 zs_56 rfl rfl ?_
  refine zw_iconst (v := (0 : Int32)) dX8_isElement_6 (by decide) rfl ?_
  refine zw_iald 0 dX8_isElement_7 zs_57 ⟨by decide, by decide⟩ (by decide) rfl ?_
  refine zw_iconst (v := (1 : Int32)) dX8_isElement_8 (by decide) rfl ?_
  refine zw_isub dX8_isElement_9 rfl ?_
  obtain ⟨q1, ct, K⟩ := K
  refine zw_callS (n := 3) (As := [.int v1, .int (0 : Int32), .int ((h.1 57 0) - (1 : Int32))]) (rest := []) ct my_X8_in rfl rfl k_X8_96 t_X8_in dX8_isElement_10 (by decide) (Nat.le_of_ble_eq_true rfl) (Nat.le_refl 0) (Nat.le_refl 0) rfl (fun r s1 h1 hq => ?_)
  obtain ⟨x1, rfl, rfl, hq⟩ := hq
  have K := K x1 h1 hq
  refine zw.st (st' := [.int x1]) rfl ?_
  obtain ⟨hb, K⟩ := K
  exact zw_ireturn (ty := .boolean) dX8_isElement_13 rfl (zw_nb hb).1 (Nat.le_refl 0) (Nat.le_refl 0) ⟨_, rfl, rfl, K⟩

set_option maxRecDepth 100000 in
set_option maxHeartbeats 4000000 in
theorem rX8_isPair_0 {q : Int32 → zw_H → Prop} {h : zw_H} {v1 v2 : Int32} (K : (∃ q1 : Int32 → zw_H → Prop, zcI 1 mX8_isElement [.ref 56, .int v1] h q1 ∧ (∀ (x1 : Int32) (h1 : zw_H), q1 x1 h1 → ((x1 = 0 → q (0 : Int32) h1) ∧ (¬ x1 = 0 → (∃ q2 : Int32 → zw_H → Prop, zcI 1 mX8_isElement [.ref 56, .int v2] h1 q2 ∧ (∀ (x2 : Int32) (h2 : zw_H), q2 x2 h2 → ((x2 = 0 → q (0 : Int32) h2) ∧ (¬ x2 = 0 → ((v1 = v2 → q (0 : Int32) h2) ∧ (¬ v1 = v2 → q (1 : Int32) h2))))))))))) : zwI 2 mX8_isPair q 0 [(0, .ref 56), (1, .int v1), (2, .int v2)] [] h := by
  refine zw_aload_n 0 dX8_isPair_0 rfl rfl rfl ?_
  refine zw_iload_n 1 dX8_isPair_1 rfl rfl rfl ?_
  obtain ⟨q1, ct, K⟩ := K
  refine zw_callV (n := 1) (As := [.int v1]) (rest := []) ct my_X8_isElement rfl rfl k_X8_105 i_X8_isElement s_X8_isElement zs_56 rfl dX8_isPair_2 (by decide) (Nat.le_of_ble_eq_true rfl) (Nat.le_refl 0) (Nat.le_refl 0) rfl (fun r s1 h1 hq => ?_)
  obtain ⟨x1, rfl, rfl, hq⟩ := hq
  have K := K x1 h1 hq
  refine zw.st (st' := [.int x1]) rfl ?_
  refine zw_if_eq (tg := 25) dX8_isPair_5 (by decide) rfl (fun c => ?_) (fun c => ?_)
  · have K := K.1 c
    refine zw_iconst (v := (0 : Int32)) dX8_isPair_25 (by decide) rfl ?_
    exact zw_ireturn (ty := .boolean) dX8_isPair_26 rfl rfl (Nat.le_refl 0) (Nat.le_refl 0) ⟨_, rfl, rfl, K⟩
  · have K := K.2 c
    refine zw_aload_n 0 dX8_isPair_8 rfl rfl rfl ?_
    refine zw_iload_n 2 dX8_isPair_9 rfl rfl rfl ?_
    obtain ⟨q2, ct, K⟩ := K
    refine zw_callV (n := 1) (As := [.int v2]) (rest := []) ct my_X8_isElement rfl rfl k_X8_105 i_X8_isElement s_X8_isElement zs_56 rfl dX8_isPair_10 (by decide) (Nat.le_of_ble_eq_true rfl) (Nat.le_refl 0) (Nat.le_refl 0) rfl (fun r s1 h2 hq => ?_)
    obtain ⟨x2, rfl, rfl, hq⟩ := hq
    have K := K x2 h2 hq
    refine zw.st (st' := [.int x2]) rfl ?_
    refine zw_if_eq (tg := 25) dX8_isPair_13 (by decide) rfl (fun c => ?_) (fun c => ?_)
    · have K := K.1 c
      refine zw_iconst (v := (0 : Int32)) dX8_isPair_25 (by decide) rfl ?_
      exact zw_ireturn (ty := .boolean) dX8_isPair_26 rfl rfl (Nat.le_refl 0) (Nat.le_refl 0) ⟨_, rfl, rfl, K⟩
    · have K := K.2 c
      refine zw_iload_n 1 dX8_isPair_16 rfl rfl rfl ?_
      refine zw_iload_n 2 dX8_isPair_17 rfl rfl rfl ?_
      refine zw_icmp_eq (tg := 25) dX8_isPair_18 (by decide) rfl (fun c => ?_) (fun c => ?_)
      · have K := K.1 c
        refine zw_iconst (v := (0 : Int32)) dX8_isPair_25 (by decide) rfl ?_
        exact zw_ireturn (ty := .boolean) dX8_isPair_26 rfl rfl (Nat.le_refl 0) (Nat.le_refl 0) ⟨_, rfl, rfl, K⟩
      · have K := K.2 c
        refine zw_iconst (v := (1 : Int32)) dX8_isPair_21 (by decide) rfl ?_
        refine zw_goto (np := 26) dX8_isPair_22 (by decide) ?_
        exact zw_ireturn (ty := .boolean) dX8_isPair_26 rfl rfl (Nat.le_refl 0) (Nat.le_refl 0) ⟨_, rfl, rfl, K⟩

set_option maxRecDepth 100000 in
set_option maxHeartbeats 4000000 in
theorem rX8_apart_0 {q : Int32 → zw_H → Prop} {h : zw_H} {v1 v2 v3 : Int32} (K : (∃ q1 : Int32 → zw_H → Prop, zcI 2 mX8_isPair [.ref 56, .int v1, .int v2] h q1 ∧ (∀ (x1 : Int32) (h1 : zw_H), q1 x1 h1 → ((x1 = 0 → q (-1 : Int32) h1) ∧ (¬ x1 = 0 → (∃ q2 : Int32 → zw_H → Prop, zcI 0 mX8_bitOf [.int v1, .int v2] h1 q2 ∧ (∀ (x2 : Int32) (h2 : zw_H), q2 x2 h2 → (∃ q3 : Int32 → zw_H → Prop, zcI 6 mX8_setsBit [.ref 56, .int (3 : Int32), .int x2, .int v3] h2 q3 ∧ (∀ (x3 : Int32) (h3 : zw_H), q3 x3 h3 → q x3 h3))))))))) : zwI 7 mX8_apart q 0 [(0, .ref 56), (1, .int v1), (2, .int v2), (3, .int v3)] [] h := by
  refine zw_aload_n 0 dX8_apart_0 rfl rfl rfl ?_
  refine zw_iload_n 1 dX8_apart_1 rfl rfl rfl ?_
  refine zw_iload_n 2 dX8_apart_2 rfl rfl rfl ?_
  obtain ⟨q1, ct, K⟩ := K
  refine zw_callV (n := 2) (As := [.int v1, .int v2]) (rest := []) ct my_X8_isPair rfl rfl k_X8_109 i_X8_isPair s_X8_isPair zs_56 rfl dX8_apart_3 (by decide) (Nat.le_of_ble_eq_true rfl) (Nat.le_refl 0) (Nat.le_refl 0) rfl (fun r s1 h1 hq => ?_)
  obtain ⟨x1, rfl, rfl, hq⟩ := hq
  have K := K x1 h1 hq
  refine zw.st (st' := [.int x1]) rfl ?_
  refine zw_if_eq (tg := 23) dX8_apart_6 (by decide) rfl (fun c => ?_) (fun c => ?_)
  · have K := K.1 c
    refine zw_iconst (v := (-1 : Int32)) dX8_apart_23 (by decide) rfl ?_
    exact zw_ireturn (ty := .int) dX8_apart_24 rfl rfl (Nat.le_refl 0) (Nat.le_refl 0) ⟨_, rfl, rfl, K⟩
  · have K := K.2 c
    refine zw_aload_n 0 dX8_apart_9 rfl rfl rfl ?_
    refine zw_iconst (v := (3 : Int32)) dX8_apart_10 (by decide) rfl ?_
    refine zw_iload_n 1 dX8_apart_11 rfl rfl rfl ?_
    refine zw_iload_n 2 dX8_apart_12 rfl rfl rfl ?_
    obtain ⟨q2, ct, K⟩ := K
    refine zw_callS (n := 2) (As := [.int v1, .int v2]) (rest := [.int (3 : Int32), .ref 56]) ct my_X8_bitOf rfl rfl k_X8_73 t_X8_bitOf dX8_apart_13 (by decide) (Nat.le_of_ble_eq_true rfl) (Nat.le_refl 0) (Nat.le_refl 0) rfl (fun r s1 h2 hq => ?_)
    obtain ⟨x2, rfl, rfl, hq⟩ := hq
    have K := K x2 h2 hq
    refine zw.st (st' := [.int x2, .int (3 : Int32), .ref 56]) rfl ?_
    refine zw_iload_n 3 dX8_apart_16 rfl rfl rfl ?_
    obtain ⟨q3, ct, K⟩ := K
    refine zw_callV (n := 3) (As := [.int (3 : Int32), .int x2, .int v3]) (rest := []) ct my_X8_setsBit rfl rfl k_X8_102 i_X8_setsBit s_X8_setsBit zs_56 rfl dX8_apart_17 (by decide) (Nat.le_of_ble_eq_true rfl) (Nat.le_refl 0) (Nat.le_refl 0) rfl (fun r s1 h3 hq => ?_)
    obtain ⟨x3, rfl, rfl, hq⟩ := hq
    have K := K x3 h3 hq
    refine zw.st (st' := [.int x3]) rfl ?_
    refine zw_goto (np := 24) dX8_apart_20 (by decide) ?_
    exact zw_ireturn (ty := .int) dX8_apart_24 rfl rfl (Nat.le_refl 0) (Nat.le_refl 0) ⟨_, rfl, rfl, K⟩

set_option maxRecDepth 100000 in
set_option maxHeartbeats 4000000 in
theorem rX8_together_0 {q : Int32 → zw_H → Prop} {h : zw_H} {v1 v2 v3 : Int32} (K : (∃ q1 : Int32 → zw_H → Prop, zcI 2 mX8_isPair [.ref 56, .int v1, .int v2] h q1 ∧ (∀ (x1 : Int32) (h1 : zw_H), q1 x1 h1 → ((x1 = 0 → q (-1 : Int32) h1) ∧ (¬ x1 = 0 → (∃ q2 : Int32 → zw_H → Prop, zcI 0 mX8_bitOf [.int v1, .int v2] h1 q2 ∧ (∀ (x2 : Int32) (h2 : zw_H), q2 x2 h2 → (∃ q3 : Int32 → zw_H → Prop, zcI 6 mX8_setsBit [.ref 56, .int (4 : Int32), .int x2, .int v3] h2 q3 ∧ (∀ (x3 : Int32) (h3 : zw_H), q3 x3 h3 → q x3 h3))))))))) : zwI 7 mX8_together q 0 [(0, .ref 56), (1, .int v1), (2, .int v2), (3, .int v3)] [] h := by
  refine zw_aload_n 0 dX8_together_0 rfl rfl rfl ?_
  refine zw_iload_n 1 dX8_together_1 rfl rfl rfl ?_
  refine zw_iload_n 2 dX8_together_2 rfl rfl rfl ?_
  obtain ⟨q1, ct, K⟩ := K
  refine zw_callV (n := 2) (As := [.int v1, .int v2]) (rest := []) ct my_X8_isPair rfl rfl k_X8_109 i_X8_isPair s_X8_isPair zs_56 rfl dX8_together_3 (by decide) (Nat.le_of_ble_eq_true rfl) (Nat.le_refl 0) (Nat.le_refl 0) rfl (fun r s1 h1 hq => ?_)
  obtain ⟨x1, rfl, rfl, hq⟩ := hq
  have K := K x1 h1 hq
  refine zw.st (st' := [.int x1]) rfl ?_
  refine zw_if_eq (tg := 23) dX8_together_6 (by decide) rfl (fun c => ?_) (fun c => ?_)
  · have K := K.1 c
    refine zw_iconst (v := (-1 : Int32)) dX8_together_23 (by decide) rfl ?_
    exact zw_ireturn (ty := .int) dX8_together_24 rfl rfl (Nat.le_refl 0) (Nat.le_refl 0) ⟨_, rfl, rfl, K⟩
  · have K := K.2 c
    refine zw_aload_n 0 dX8_together_9 rfl rfl rfl ?_
    refine zw_iconst (v := (4 : Int32)) dX8_together_10 (by decide) rfl ?_
    refine zw_iload_n 1 dX8_together_11 rfl rfl rfl ?_
    refine zw_iload_n 2 dX8_together_12 rfl rfl rfl ?_
    obtain ⟨q2, ct, K⟩ := K
    refine zw_callS (n := 2) (As := [.int v1, .int v2]) (rest := [.int (4 : Int32), .ref 56]) ct my_X8_bitOf rfl rfl k_X8_73 t_X8_bitOf dX8_together_13 (by decide) (Nat.le_of_ble_eq_true rfl) (Nat.le_refl 0) (Nat.le_refl 0) rfl (fun r s1 h2 hq => ?_)
    obtain ⟨x2, rfl, rfl, hq⟩ := hq
    have K := K x2 h2 hq
    refine zw.st (st' := [.int x2, .int (4 : Int32), .ref 56]) rfl ?_
    refine zw_iload_n 3 dX8_together_16 rfl rfl rfl ?_
    obtain ⟨q3, ct, K⟩ := K
    refine zw_callV (n := 3) (As := [.int (4 : Int32), .int x2, .int v3]) (rest := []) ct my_X8_setsBit rfl rfl k_X8_102 i_X8_setsBit s_X8_setsBit zs_56 rfl dX8_together_17 (by decide) (Nat.le_of_ble_eq_true rfl) (Nat.le_refl 0) (Nat.le_refl 0) rfl (fun r s1 h3 hq => ?_)
    obtain ⟨x3, rfl, rfl, hq⟩ := hq
    have K := K x3 h3 hq
    refine zw.st (st' := [.int x3]) rfl ?_
    refine zw_goto (np := 24) dX8_together_20 (by decide) ?_
    exact zw_ireturn (ty := .int) dX8_together_24 rfl rfl (Nat.le_refl 0) (Nat.le_refl 0) ⟨_, rfl, rfl, K⟩

set_option maxRecDepth 100000 in
set_option maxHeartbeats 4000000 in
theorem rX8_noncrossing_0 {q : Int32 → zw_H → Prop} {h : zw_H} {v1 : Int32} (K : ((v1 = 0 → (∃ q1 : Int32 → zw_H → Prop, zcI 5 mX8_sets [.ref 56, .int (5 : Int32), .int (0 : Int32)] h q1 ∧ (∀ (x1 : Int32) (h1 : zw_H), q1 x1 h1 → q x1 h1))) ∧ (¬ v1 = 0 → (∃ q2 : Int32 → zw_H → Prop, zcI 5 mX8_sets [.ref 56, .int (5 : Int32), .int (1 : Int32)] h q2 ∧ (∀ (x2 : Int32) (h2 : zw_H), q2 x2 h2 → q x2 h2))))) : zwI 6 mX8_noncrossing q 0 [(0, .ref 56), (1, .int v1)] [] h := by
  refine zw_aload_n 0 dX8_noncrossing_0 rfl rfl rfl ?_
  refine zw_iconst (v := (5 : Int32)) dX8_noncrossing_1 (by decide) rfl ?_
  refine zw_iload_n 1 dX8_noncrossing_2 rfl rfl rfl ?_
  refine zw_if_eq (tg := 10) dX8_noncrossing_3 (by decide) rfl (fun c => ?_) (fun c => ?_)
  · have K := K.1 c
    refine zw_iconst (v := (0 : Int32)) dX8_noncrossing_10 (by decide) rfl ?_
    obtain ⟨q1, ct, K⟩ := K
    refine zw_callV (n := 2) (As := [.int (5 : Int32), .int (0 : Int32)]) (rest := []) ct my_X8_sets rfl rfl k_X8_99 i_X8_sets s_X8_sets zs_56 rfl dX8_noncrossing_11 (by decide) (Nat.le_of_ble_eq_true rfl) (Nat.le_refl 0) (Nat.le_refl 0) rfl (fun r s1 h1 hq => ?_)
    obtain ⟨x1, rfl, rfl, hq⟩ := hq
    have K := K x1 h1 hq
    refine zw.st (st' := [.int x1]) rfl ?_
    exact zw_ireturn (ty := .int) dX8_noncrossing_14 rfl rfl (Nat.le_refl 0) (Nat.le_refl 0) ⟨_, rfl, rfl, K⟩
  · have K := K.2 c
    refine zw_iconst (v := (1 : Int32)) dX8_noncrossing_6 (by decide) rfl ?_
    refine zw_goto (np := 11) dX8_noncrossing_7 (by decide) ?_
    obtain ⟨q2, ct, K⟩ := K
    refine zw_callV (n := 2) (As := [.int (5 : Int32), .int (1 : Int32)]) (rest := []) ct my_X8_sets rfl rfl k_X8_99 i_X8_sets s_X8_sets zs_56 rfl dX8_noncrossing_11 (by decide) (Nat.le_of_ble_eq_true rfl) (Nat.le_refl 0) (Nat.le_refl 0) rfl (fun r s1 h2 hq => ?_)
    obtain ⟨x2, rfl, rfl, hq⟩ := hq
    have K := K x2 h2 hq
    refine zw.st (st' := [.int x2]) rfl ?_
    exact zw_ireturn (ty := .int) dX8_noncrossing_14 rfl rfl (Nat.le_refl 0) (Nat.le_refl 0) ⟨_, rfl, rfl, K⟩

set_option maxRecDepth 100000 in
set_option maxHeartbeats 4000000 in
theorem rX8_type_0 {q : Int32 → zw_H → Prop} {h : zw_H} {v1 : Int32} (K : (∃ q1 : Int32 → zw_H → Prop, zcI 0 mX8_in [.int v1, .int (0 : Int32), .int (127 : Int32)] h q1 ∧ (∀ (x1 : Int32) (h1 : zw_H), q1 x1 h1 → ((¬ x1 = 0 → ((¬ (h1.1 56 3) = (20 : Int32) → (∃ j2 : Nat, (h1.1 56 3) = nI j2 ∧ j2 < 20 ∧ ∀ h3 : zw_H, h3 = zw_sI h1 58 j2 v1 → (∀ h4 : zw_H, h4 = zw_sI h3 56 3 ((h3.1 56 3) + (1 : Int32)) → q (h4.1 56 3) h4))) ∧ ((h1.1 56 3) = (20 : Int32) → q (-4 : Int32) h1))) ∧ (x1 = 0 → q (-1 : Int32) h1))))) : zwI 1 mX8_type q 0 [(0, .ref 56), (1, .int v1)] [] h := by
  refine zw_iload_n 1 dX8_type_0 rfl rfl rfl ?_
  refine zw_iconst (v := (0 : Int32)) dX8_type_1 (by decide) rfl ?_
  refine zw_bipush (v := (127 : Int32)) dX8_type_2 (by decide) rfl ?_
  obtain ⟨q1, ct, K⟩ := K
  refine zw_callS (n := 3) (As := [.int v1, .int (0 : Int32), .int (127 : Int32)]) (rest := []) ct my_X8_in rfl rfl k_X8_96 t_X8_in dX8_type_4 (by decide) (Nat.le_of_ble_eq_true rfl) (Nat.le_refl 0) (Nat.le_refl 0) rfl (fun r s1 h1 hq => ?_)
  obtain ⟨x1, rfl, rfl, hq⟩ := hq
  have K := K x1 h1 hq
  refine zw.st (st' := [.int x1]) rfl ?_
  refine zw_if_ne (tg := 12) dX8_type_7 (by decide) rfl (fun c => ?_) (fun c => ?_)
  · have K := K.1 c
    refine zw_aload_n 0 dX8_type_12 rfl rfl rfl ?_
    refine zw_getI f_X8_112 dX8_type_13 zs_56 rfl rfl ?_
    refine zw_bipush (v := (20 : Int32)) dX8_type_16 (by decide) rfl ?_
    refine zw_icmp_ne (tg := 24) dX8_type_18 (by decide) rfl (fun c => ?_) (fun c => ?_)
    · have K := K.1 c
      refine zw_aload_n 0 dX8_type_24 rfl rfl rfl ?_
      refine zw_getR f_X8_13 dX8_type_25 zs_56 rfl rfl ?_
      refine zw_aload_n 0 dX8_type_28 rfl rfl rfl ?_
      refine zw_getI f_X8_112 dX8_type_29 zs_56 rfl rfl ?_
      refine zw_iload_n 1 dX8_type_32 rfl rfl rfl ?_
      obtain ⟨j2, hj2, hn2, K⟩ := K
      refine zw_iast j2 dX8_type_33 zs_58 ⟨hj2, hn2⟩ (by decide) rfl ?_
      generalize e3 : zw_sI h1 58 j2 v1 = h3
      have K := K h3 e3.symm
      refine zw_aload_n 0 dX8_type_34 rfl rfl rfl ?_
      refine zw_dup dX8_type_35 rfl rfl ?_
      refine zw_getI f_X8_112 dX8_type_36 zs_56 rfl rfl ?_
      refine zw_iconst (v := (1 : Int32)) dX8_type_39 (by decide) rfl ?_
      refine zw_iadd dX8_type_40 rfl ?_
      refine zw_putI f_X8_112 cl_X8 rfl ⟨rfl, rfl⟩ dX8_type_41 zs_56 rfl rfl ?_
      generalize e4 : zw_sI h3 56 3 ((h3.1 56 3) + (1 : Int32)) = h4
      have K := K h4 e4.symm
      refine zw_aload_n 0 dX8_type_44 rfl rfl rfl ?_
      refine zw_getI f_X8_112 dX8_type_45 zs_56 rfl rfl ?_
      exact zw_ireturn (ty := .int) dX8_type_48 rfl rfl (Nat.le_refl 0) (Nat.le_refl 0) ⟨_, rfl, rfl, K⟩
    · have K := K.2 c
      refine zw_bipush (v := (-4 : Int32)) dX8_type_21 (by decide) rfl ?_
      exact zw_ireturn (ty := .int) dX8_type_23 rfl rfl (Nat.le_refl 0) (Nat.le_refl 0) ⟨_, rfl, rfl, K⟩
  · have K := K.2 c
    refine zw_iconst (v := (-1 : Int32)) dX8_type_10 (by decide) rfl ?_
    exact zw_ireturn (ty := .int) dX8_type_11 rfl rfl (Nat.le_refl 0) (Nat.le_refl 0) ⟨_, rfl, rfl, K⟩

set_option maxRecDepth 100000 in
set_option maxHeartbeats 4000000 in
theorem rX8_clear_0 {q : Int32 → zw_H → Prop} {h : zw_H} (K : (∀ h1 : zw_H, h1 = zw_sI h 56 3 (0 : Int32) → q (h.1 56 3) h1)) : zwI 0 mX8_clear q 0 [(0, .ref 56)] [] h := by
  refine zw_aload_n 0 dX8_clear_0 rfl rfl rfl ?_
  refine zw_getI f_X8_112 dX8_clear_1 zs_56 rfl rfl ?_
  refine zw_istore_n dX8_clear_4 rfl (by decide) rfl rfl ?_
  refine zw_aload_n 1 dX8_clear_5 rfl rfl rfl ?_
  refine zw_iconst (v := (0 : Int32)) dX8_clear_6 (by decide) rfl ?_
  refine zw_putI f_X8_112 cl_X8 rfl ⟨rfl, rfl⟩ dX8_clear_7 zs_56 rfl rfl ?_
  generalize e1 : zw_sI h 56 3 (0 : Int32) = h1
  have K := K h1 e1.symm
  refine zw_iload_n 0 dX8_clear_10 rfl rfl rfl ?_
  exact zw_ireturn (ty := .int) dX8_clear_11 rfl rfl (Nat.le_refl 0) (Nat.le_refl 0) ⟨_, rfl, rfl, K⟩

set_option maxRecDepth 100000 in
set_option maxHeartbeats 4000000 in
theorem rX8_isRegister_0 {q : Int32 → zw_H → Prop} {h : zw_H} {v0 : Int32} (K : (∃ q1 : Int32 → zw_H → Prop, zcI 0 mX8_in [.int v0, .int (0 : Int32), .int (7 : Int32)] h q1 ∧ (∀ (x1 : Int32) (h1 : zw_H), q1 x1 h1 → ((x1 = 0 ∨ x1 = 1) ∧ q x1 h1)))) : zwI 1 mX8_isRegister q 0 [(0, .int v0)] [] h := by
  refine zw_iload_n 0 dX8_isRegister_0 rfl rfl rfl ?_
  refine zw_iconst (v := (0 : Int32)) dX8_isRegister_1 (by decide) rfl ?_
  refine zw_bipush (v := (7 : Int32)) dX8_isRegister_2 (by decide) rfl ?_
  obtain ⟨q1, ct, K⟩ := K
  refine zw_callS (n := 3) (As := [.int v0, .int (0 : Int32), .int (7 : Int32)]) (rest := []) ct my_X8_in rfl rfl k_X8_96 t_X8_in dX8_isRegister_4 (by decide) (Nat.le_of_ble_eq_true rfl) (Nat.le_refl 0) (Nat.le_refl 0) rfl (fun r s1 h1 hq => ?_)
  obtain ⟨x1, rfl, rfl, hq⟩ := hq
  have K := K x1 h1 hq
  refine zw.st (st' := [.int x1]) rfl ?_
  obtain ⟨hb, K⟩ := K
  exact zw_ireturn (ty := .boolean) dX8_isRegister_7 rfl (zw_nb hb).1 (Nat.le_refl 0) (Nat.le_refl 0) ⟨_, rfl, rfl, K⟩

set_option maxRecDepth 100000 in
set_option maxHeartbeats 4000000 in
theorem rX8_held_0 {q : Int32 → zw_H → Prop} {h : zw_H} {v1 : Int32} (K : (∃ j1 : Nat, ((6 : Int32) + v1) = nI j1 ∧ j1 < 154 ∧ q (h.1 57 j1) h)) : zwI 0 mX8_held q 0 [(0, .ref 56), (1, .int v1)] [] h := by
  refine zw_aload_n 0 dX8_held_0 rfl rfl rfl ?_
  refine zw_getR f_X8_7 dX8_held_1 zs_56 rfl rfl ?_
  refine zw_bipush (v := (6 : Int32)) dX8_held_4 (by decide) rfl ?_
  refine zw_iload_n 1 dX8_held_6 rfl rfl rfl ?_
  refine zw_iadd dX8_held_7 rfl ?_
  obtain ⟨j1, hj1, hn1, K⟩ := K
  refine zw_iald j1 dX8_held_8 zs_57 ⟨hj1, hn1⟩ (by decide) rfl ?_
  exact zw_ireturn (ty := .int) dX8_held_9 rfl rfl (Nat.le_refl 0) (Nat.le_refl 0) ⟨_, rfl, rfl, K⟩

set_option maxRecDepth 100000 in
set_option maxHeartbeats 4000000 in
theorem rX8_puts_0 {q : Int32 → zw_H → Prop} {h : zw_H} {v1 v2 : Int32} (K : (∃ q1 : zw_H → Prop, zcV 0 mX8_begins [.ref 56] h q1 ∧ (∀ h1 : zw_H, q1 h1 → (∃ j2 : Nat, ((6 : Int32) + v1) = nI j2 ∧ j2 < 154 ∧ ∀ h3 : zw_H, h3 = zw_sI h1 57 j2 v2 → (∃ j4 : Nat, v2 = nI j4 ∧ j4 < 203 ∧ q (h3.1 60 j4) h3))))) : zwI 1 mX8_puts q 0 [(0, .ref 56), (1, .int v1), (2, .int v2)] [] h := by
  refine zw_aload_n 0 dX8_puts_0 rfl rfl rfl ?_
  obtain ⟨q1, ct, K⟩ := K
  refine zw_callV (n := 0) (As := []) (rest := []) ct my_X8_begins rfl rfl k_X8_93 i_X8_begins s_X8_begins zs_56 rfl dX8_puts_1 (by decide) (Nat.le_of_ble_eq_true rfl) (Nat.le_refl 0) (Nat.le_refl 0) rfl (fun r s1 h1 hq => ?_)
  obtain ⟨rfl, rfl, hq⟩ := hq
  have K := K h1 hq
  refine zw.st (st' := []) rfl ?_
  refine zw_aload_n 0 dX8_puts_4 rfl rfl rfl ?_
  refine zw_getR f_X8_7 dX8_puts_5 zs_56 rfl rfl ?_
  refine zw_bipush (v := (6 : Int32)) dX8_puts_8 (by decide) rfl ?_
  refine zw_iload_n 1 dX8_puts_10 rfl rfl rfl ?_
  refine zw_iadd dX8_puts_11 rfl ?_
  refine zw_iload_n 2 dX8_puts_12 rfl rfl rfl ?_
  obtain ⟨j2, hj2, hn2, K⟩ := K
  refine zw_iast j2 dX8_puts_13 zs_57 ⟨hj2, hn2⟩ (by decide) rfl ?_
  generalize e3 : zw_sI h1 57 j2 v2 = h3
  have K := K h3 e3.symm
  refine zw_aload_n 0 dX8_puts_14 rfl rfl rfl ?_
  refine zw_getR f_X8_19 dX8_puts_15 zs_56 rfl rfl ?_
  refine zw_iload_n 2 dX8_puts_18 rfl rfl rfl ?_
  obtain ⟨j4, hj4, hn4, K⟩ := K
  refine zw_iald j4 dX8_puts_19 zs_60 ⟨hj4, hn4⟩ (by decide) rfl ?_
  exact zw_ireturn (ty := .int) dX8_puts_20 rfl rfl (Nat.le_refl 0) (Nat.le_refl 0) ⟨_, rfl, rfl, K⟩

set_option maxRecDepth 100000 in
set_option maxHeartbeats 4000000 in
theorem rX8_reads_0 {q : Int32 → zw_H → Prop} {h : zw_H} (K : zwI 1 mX8_reads q 18 [(0, .ref 56), (1, .int (((1 : Int32) <<< ((h.1 57 0) &&& 31)) - (1 : Int32))), (2, .int (0 : Int32)), (3, .int (0 : Int32)), (4, .int (0 : Int32))] [] h) : zwI 1 mX8_reads q 0 [(0, .ref 56)] [] h := by
  refine zw_iconst (v := (1 : Int32)) dX8_reads_0 (by decide) rfl ?_
  refine zw_aload_n 0 dX8_reads_1 rfl rfl rfl ?_
  refine zw_getR f_X8_7 dX8_reads_2 zs_56 rfl rfl ?_
  refine zw_iconst (v := (0 : Int32)) dX8_reads_5 (by decide) rfl ?_
  refine zw_iald 0 dX8_reads_6 zs_57 ⟨by decide, by decide⟩ (by decide) rfl ?_
  refine zw_ishl dX8_reads_7 rfl ?_
  refine zw_iconst (v := (1 : Int32)) dX8_reads_8 (by decide) rfl ?_
  refine zw_isub dX8_reads_9 rfl ?_
  refine zw_istore_n dX8_reads_10 rfl (by decide) rfl rfl ?_
  refine zw_iconst (v := (0 : Int32)) dX8_reads_11 (by decide) rfl ?_
  refine zw_istore_n dX8_reads_12 rfl (by decide) rfl rfl ?_
  refine zw_iconst (v := (0 : Int32)) dX8_reads_13 (by decide) rfl ?_
  refine zw_istore_n dX8_reads_14 rfl (by decide) rfl rfl ?_
  refine zw_iconst (v := (0 : Int32)) dX8_reads_15 (by decide) rfl ?_
  refine zw_istore dX8_reads_16 (by decide) rfl rfl ?_
  exact zw.sub [4, 3, 2, 1, 0] rfl K

set_option maxRecDepth 100000 in
set_option maxHeartbeats 4000000 in
theorem rX8_reads_18 {q : Int32 → zw_H → Prop} {h : zw_H} {v1 v2 v3 v4 : Int32} (K : (((h.1 56 3) ≤ v4 → ((¬ v1 = 0 → q (h.1 56 3) h) ∧ (v1 = 0 → ((v3 = 0 → q (h.1 56 3) h) ∧ (¬ v3 = 0 → q (-9 : Int32) h))))) ∧ (¬ (h.1 56 3) ≤ v4 → (∃ j1 : Nat, v4 = nI j1 ∧ j1 < 20 ∧ (∃ q2 : Int32 → zw_H → Prop, zcI 0 mX8_in [.int ((h.1 58 j1) - (48 : Int32)), .int (0 : Int32), .int ((h.1 57 0) - (1 : Int32))] h q2 ∧ (∀ (x2 : Int32) (h2 : zw_H), q2 x2 h2 → ((x2 = 0 → (∃ j3 : Nat, v4 = nI j3 ∧ j3 < 20 ∧ ((¬ (h2.1 58 j3) = (47 : Int32) → q v4 h2) ∧ ((h2.1 58 j3) = (47 : Int32) → ((v3 = 0 → q v4 h2) ∧ (¬ v3 = 0 → zwI 1 mX8_reads q 18 [(0, .ref 56), (1, .int v1), (2, .int (v2 + (1 : Int32))), (3, .int (0 : Int32)), (4, .int (v4 + (1 : Int32)))] [] h2)))))) ∧ (¬ x2 = 0 → ((¬ ((v1 >>> (((h.1 58 j1) - (48 : Int32)) &&& 31)) &&& (1 : Int32)) = (1 : Int32) → (∃ j4 : Nat, v4 = nI j4 ∧ j4 < 20 ∧ ((¬ (h2.1 58 j4) = (47 : Int32) → q v4 h2) ∧ ((h2.1 58 j4) = (47 : Int32) → ((v3 = 0 → q v4 h2) ∧ (¬ v3 = 0 → zwI 1 mX8_reads q 18 [(0, .ref 56), (1, .int v1), (2, .int (v2 + (1 : Int32))), (3, .int (0 : Int32)), (4, .int (v4 + (1 : Int32)))] [] h2)))))) ∧ (((v1 >>> (((h.1 58 j1) - (48 : Int32)) &&& 31)) &&& (1 : Int32)) = (1 : Int32) → (∃ j5 : Nat, ((h.1 58 j1) - (48 : Int32)) = nI j5 ∧ j5 < 6 ∧ ∀ h6 : zw_H, h6 = zw_sI h2 62 j5 v2 → zwI 1 mX8_reads q 18 [(0, .ref 56), (1, .int (v1 &&& (((1 : Int32) <<< (((h.1 58 j1) - (48 : Int32)) &&& 31)) ^^^ (-1 : Int32)))), (2, .int v2), (3, .int (1 : Int32)), (4, .int (v4 + (1 : Int32)))] [] h6))))))))))) : zwI 1 mX8_reads q 18 [(0, .ref 56), (1, .int v1), (2, .int v2), (3, .int v3), (4, .int v4)] [] h := by
  refine zw_iload 4 dX8_reads_18 rfl rfl ?_
  refine zw_aload_n 0 dX8_reads_20 rfl rfl rfl ?_
  refine zw_getI f_X8_112 dX8_reads_21 zs_56 rfl rfl ?_
  refine zw_icmp_ge (tg := 121) dX8_reads_24 (by decide) rfl (fun c => ?_) (fun c => ?_)
  · have K := K.1 c
    refine zw_iload_n 1 dX8_reads_121 rfl rfl rfl ?_
    refine zw_if_ne (tg := 134) dX8_reads_122 (by decide) rfl (fun c => ?_) (fun c => ?_)
    · have K := K.1 c
      refine zw_aload_n 0 dX8_reads_134 rfl rfl rfl ?_
      refine zw_getI f_X8_112 dX8_reads_135 zs_56 rfl rfl ?_
      exact zw_ireturn (ty := .int) dX8_reads_138 rfl rfl (Nat.le_refl 0) (Nat.le_refl 0) ⟨_, rfl, rfl, K⟩
    · have K := K.2 c
      refine zw_iload_n 3 dX8_reads_125 rfl rfl rfl ?_
      refine zw_if_eq (tg := 134) dX8_reads_126 (by decide) rfl (fun c => ?_) (fun c => ?_)
      · have K := K.1 c
        refine zw_aload_n 0 dX8_reads_134 rfl rfl rfl ?_
        refine zw_getI f_X8_112 dX8_reads_135 zs_56 rfl rfl ?_
        exact zw_ireturn (ty := .int) dX8_reads_138 rfl rfl (Nat.le_refl 0) (Nat.le_refl 0) ⟨_, rfl, rfl, K⟩
      · have K := K.2 c
        refine zw_bipush (v := (-9 : Int32)) dX8_reads_129 (by decide) rfl ?_
        refine zw_goto (np := 138) dX8_reads_131 (by decide) ?_
        exact zw_ireturn (ty := .int) dX8_reads_138 rfl rfl (Nat.le_refl 0) (Nat.le_refl 0) ⟨_, rfl, rfl, K⟩
  · have K := K.2 c
    refine zw_aload_n 0 dX8_reads_27 rfl rfl rfl ?_
    refine zw_getR f_X8_13 dX8_reads_28 zs_56 rfl rfl ?_
    refine zw_iload 4 dX8_reads_31 rfl rfl ?_
    obtain ⟨j1, hj1, hn1, K⟩ := K
    refine zw_iald j1 dX8_reads_33 zs_58 ⟨hj1, hn1⟩ (by decide) rfl ?_
    refine zw_bipush (v := (48 : Int32)) dX8_reads_34 (by decide) rfl ?_
    refine zw_isub dX8_reads_36 rfl ?_
    refine zw_istore dX8_reads_37 (by decide) rfl rfl ?_
    refine zw_iload 0 dX8_reads_39 rfl rfl ?_
    refine zw_iconst (v := (0 : Int32)) dX8_reads_41 (by decide) rfl ?_
    refine zw_aload_n 1 dX8_reads_42 rfl rfl rfl ?_
    refine zw_getR f_X8_7 dX8_reads_43 zs_56 rfl rfl ?_
    refine zw_iconst (v := (0 : Int32)) dX8_reads_46 (by decide) rfl ?_
    refine zw_iald 0 dX8_reads_47 zs_57 ⟨by decide, by decide⟩ (by decide) rfl ?_
    refine zw_iconst (v := (1 : Int32)) dX8_reads_48 (by decide) rfl ?_
    refine zw_isub dX8_reads_49 rfl ?_
    obtain ⟨q2, ct, K⟩ := K
    refine zw_callS (n := 3) (As := [.int ((h.1 58 j1) - (48 : Int32)), .int (0 : Int32), .int ((h.1 57 0) - (1 : Int32))]) (rest := []) ct my_X8_in rfl rfl k_X8_96 t_X8_in dX8_reads_50 (by decide) (Nat.le_of_ble_eq_true rfl) (Nat.le_refl 0) (Nat.le_refl 0) rfl (fun r s1 h2 hq => ?_)
    obtain ⟨x2, rfl, rfl, hq⟩ := hq
    have K := K x2 h2 hq
    refine zw.st (st' := [.int x2]) rfl ?_
    refine zw_if_eq (tg := 88) dX8_reads_53 (by decide) rfl (fun c => ?_) (fun c => ?_)
    · have K := K.1 c
      refine zw_aload_n 1 dX8_reads_88 rfl rfl rfl ?_
      refine zw_getR f_X8_13 dX8_reads_89 zs_56 rfl rfl ?_
      refine zw_iload 5 dX8_reads_92 rfl rfl ?_
      obtain ⟨j3, hj3, hn3, K⟩ := K
      refine zw_iald j3 dX8_reads_94 zs_58 ⟨hj3, hn3⟩ (by decide) rfl ?_
      refine zw_bipush (v := (47 : Int32)) dX8_reads_95 (by decide) rfl ?_
      refine zw_icmp_ne (tg := 112) dX8_reads_97 (by decide) rfl (fun c => ?_) (fun c => ?_)
      · have K := K.1 c
        refine zw_iload 5 dX8_reads_112 rfl rfl ?_
        exact zw_ireturn (ty := .int) dX8_reads_114 rfl rfl (Nat.le_refl 0) (Nat.le_refl 0) ⟨_, rfl, rfl, K⟩
      · have K := K.2 c
        refine zw_iload_n 4 dX8_reads_100 rfl rfl rfl ?_
        refine zw_if_eq (tg := 112) dX8_reads_101 (by decide) rfl (fun c => ?_) (fun c => ?_)
        · have K := K.1 c
          refine zw_iload 5 dX8_reads_112 rfl rfl ?_
          exact zw_ireturn (ty := .int) dX8_reads_114 rfl rfl (Nat.le_refl 0) (Nat.le_refl 0) ⟨_, rfl, rfl, K⟩
        · have K := K.2 c
          refine zw_iinc (v := (v2 + (1 : Int32))) 3 dX8_reads_104 rfl rfl (by decide) rfl rfl ?_
          refine zw_iconst (v := (0 : Int32)) dX8_reads_107 (by decide) rfl ?_
          refine zw_istore_n dX8_reads_108 rfl (by decide) rfl rfl ?_
          refine zw_goto (np := 115) dX8_reads_109 (by decide) ?_
          refine zw_iinc (v := (v4 + (1 : Int32))) 5 dX8_reads_115 rfl rfl (by decide) rfl rfl ?_
          refine zw_goto (np := 18) dX8_reads_118 (by decide) ?_
          exact zw.sub [4, 5, 2, 1, 0] rfl K
    · have K := K.2 c
      refine zw_iload_n 2 dX8_reads_56 rfl rfl rfl ?_
      refine zw_iload 0 dX8_reads_57 rfl rfl ?_
      refine zw_ishr dX8_reads_59 rfl ?_
      refine zw_iconst (v := (1 : Int32)) dX8_reads_60 (by decide) rfl ?_
      refine zw_iand dX8_reads_61 rfl ?_
      refine zw_iconst (v := (1 : Int32)) dX8_reads_62 (by decide) rfl ?_
      refine zw_icmp_ne (tg := 88) dX8_reads_63 (by decide) rfl (fun c => ?_) (fun c => ?_)
      · have K := K.1 c
        refine zw_aload_n 1 dX8_reads_88 rfl rfl rfl ?_
        refine zw_getR f_X8_13 dX8_reads_89 zs_56 rfl rfl ?_
        refine zw_iload 5 dX8_reads_92 rfl rfl ?_
        obtain ⟨j4, hj4, hn4, K⟩ := K
        refine zw_iald j4 dX8_reads_94 zs_58 ⟨hj4, hn4⟩ (by decide) rfl ?_
        refine zw_bipush (v := (47 : Int32)) dX8_reads_95 (by decide) rfl ?_
        refine zw_icmp_ne (tg := 112) dX8_reads_97 (by decide) rfl (fun c => ?_) (fun c => ?_)
        · have K := K.1 c
          refine zw_iload 5 dX8_reads_112 rfl rfl ?_
          exact zw_ireturn (ty := .int) dX8_reads_114 rfl rfl (Nat.le_refl 0) (Nat.le_refl 0) ⟨_, rfl, rfl, K⟩
        · have K := K.2 c
          refine zw_iload_n 4 dX8_reads_100 rfl rfl rfl ?_
          refine zw_if_eq (tg := 112) dX8_reads_101 (by decide) rfl (fun c => ?_) (fun c => ?_)
          · have K := K.1 c
            refine zw_iload 5 dX8_reads_112 rfl rfl ?_
            exact zw_ireturn (ty := .int) dX8_reads_114 rfl rfl (Nat.le_refl 0) (Nat.le_refl 0) ⟨_, rfl, rfl, K⟩
          · have K := K.2 c
            refine zw_iinc (v := (v2 + (1 : Int32))) 3 dX8_reads_104 rfl rfl (by decide) rfl rfl ?_
            refine zw_iconst (v := (0 : Int32)) dX8_reads_107 (by decide) rfl ?_
            refine zw_istore_n dX8_reads_108 rfl (by decide) rfl rfl ?_
            refine zw_goto (np := 115) dX8_reads_109 (by decide) ?_
            refine zw_iinc (v := (v4 + (1 : Int32))) 5 dX8_reads_115 rfl rfl (by decide) rfl rfl ?_
            refine zw_goto (np := 18) dX8_reads_118 (by decide) ?_
            exact zw.sub [4, 5, 2, 1, 0] rfl K
      · have K := K.2 c
        refine zw_iload_n 2 dX8_reads_66 rfl rfl rfl ?_
        refine zw_iconst (v := (1 : Int32)) dX8_reads_67 (by decide) rfl ?_
        refine zw_iload 0 dX8_reads_68 rfl rfl ?_
        refine zw_ishl dX8_reads_70 rfl ?_
        refine zw_iconst (v := (-1 : Int32)) dX8_reads_71 (by decide) rfl ?_
        refine zw_ixor dX8_reads_72 rfl ?_
        refine zw_iand dX8_reads_73 rfl ?_
        refine zw_istore_n dX8_reads_74 rfl (by decide) rfl rfl ?_
        refine zw_aload_n 2 dX8_reads_75 rfl rfl rfl ?_
        refine zw_getR f_X8_25 dX8_reads_76 zs_56 rfl rfl ?_
        refine zw_iload 1 dX8_reads_79 rfl rfl ?_
        refine zw_iload_n 3 dX8_reads_81 rfl rfl rfl ?_
        obtain ⟨j5, hj5, hn5, K⟩ := K
        refine zw_iast j5 dX8_reads_82 zs_62 ⟨hj5, hn5⟩ (by decide) rfl ?_
        generalize e6 : zw_sI h2 62 j5 v2 = h6
        have K := K h6 e6.symm
        refine zw_iconst (v := (1 : Int32)) dX8_reads_83 (by decide) rfl ?_
        refine zw_istore_n dX8_reads_84 rfl (by decide) rfl rfl ?_
        refine zw_goto (np := 115) dX8_reads_85 (by decide) ?_
        refine zw_iinc (v := (v4 + (1 : Int32))) 5 dX8_reads_115 rfl rfl (by decide) rfl rfl ?_
        refine zw_goto (np := 18) dX8_reads_118 (by decide) ?_
        exact zw.sub [4, 2, 5, 1, 0] rfl K

set_option maxRecDepth 100000 in
set_option maxHeartbeats 4000000 in
theorem rX8_read_0 {q : Int32 → zw_H → Prop} {h : zw_H} {v1 : Int32} (K : (∃ q1 : Int32 → zw_H → Prop, zcI 1 mX8_isRegister [.int v1] h q1 ∧ (∀ (x1 : Int32) (h1 : zw_H), q1 x1 h1 → ((¬ x1 = 0 → (∃ q2 : Int32 → zw_H → Prop, zcI 1 mX8_reads [.ref 56] h1 q2 ∧ (∀ (x2 : Int32) (h2 : zw_H), q2 x2 h2 → ((x2 = (-9 : Int32) → (∃ q3 : Int32 → zw_H → Prop, zcI 1 mX8_numberOf [.ref 56] h2 q3 ∧ (∀ (x3 : Int32) (h3 : zw_H), q3 x3 h3 → (∃ q4 : Int32 → zw_H → Prop, zcI 1 mX8_puts [.ref 56, .int v1, .int x3] h3 q4 ∧ (∀ (x4 : Int32) (h4 : zw_H), q4 x4 h4 → q x4 h4))))) ∧ (¬ x2 = (-9 : Int32) → q ((-10 : Int32) - x2) h2))))) ∧ (x1 = 0 → q (-1 : Int32) h1))))) : zwI 2 mX8_read q 0 [(0, .ref 56), (1, .int v1)] [] h := by
  refine zw_iload_n 1 dX8_read_0 rfl rfl rfl ?_
  obtain ⟨q1, ct, K⟩ := K
  refine zw_callS (n := 1) (As := [.int v1]) (rest := []) ct my_X8_isRegister rfl rfl k_X8_115 t_X8_isRegister dX8_read_1 (by decide) (Nat.le_of_ble_eq_true rfl) (Nat.le_refl 0) (Nat.le_refl 0) rfl (fun r s1 h1 hq => ?_)
  obtain ⟨x1, rfl, rfl, hq⟩ := hq
  have K := K x1 h1 hq
  refine zw.st (st' := [.int x1]) rfl ?_
  refine zw_if_ne (tg := 9) dX8_read_4 (by decide) rfl (fun c => ?_) (fun c => ?_)
  · have K := K.1 c
    refine zw_aload_n 0 dX8_read_9 rfl rfl rfl ?_
    obtain ⟨q2, ct, K⟩ := K
    refine zw_callV (n := 0) (As := []) (rest := []) ct my_X8_reads rfl rfl k_X8_118 i_X8_reads s_X8_reads zs_56 rfl dX8_read_10 (by decide) (Nat.le_of_ble_eq_true rfl) (Nat.le_refl 0) (Nat.le_refl 0) rfl (fun r s1 h2 hq => ?_)
    obtain ⟨x2, rfl, rfl, hq⟩ := hq
    have K := K x2 h2 hq
    refine zw.st (st' := [.int x2]) rfl ?_
    refine zw_istore_n dX8_read_13 rfl (by decide) rfl rfl ?_
    refine zw_iload_n 0 dX8_read_14 rfl rfl rfl ?_
    refine zw_bipush (v := (-9 : Int32)) dX8_read_15 (by decide) rfl ?_
    refine zw_icmp_eq (tg := 27) dX8_read_17 (by decide) rfl (fun c => ?_) (fun c => ?_)
    · have K := K.1 c
      refine zw_aload_n 1 dX8_read_27 rfl rfl rfl ?_
      refine zw_iload_n 2 dX8_read_28 rfl rfl rfl ?_
      refine zw_aload_n 1 dX8_read_29 rfl rfl rfl ?_
      obtain ⟨q3, ct, K⟩ := K
      refine zw_callV (n := 0) (As := []) (rest := [.int v1, .ref 56]) ct my_X8_numberOf rfl rfl k_X8_122 i_X8_numberOf s_X8_numberOf zs_56 rfl dX8_read_30 (by decide) (Nat.le_of_ble_eq_true rfl) (Nat.le_refl 0) (Nat.le_refl 0) rfl (fun r s1 h3 hq => ?_)
      obtain ⟨x3, rfl, rfl, hq⟩ := hq
      have K := K x3 h3 hq
      refine zw.st (st' := [.int x3, .int v1, .ref 56]) rfl ?_
      obtain ⟨q4, ct, K⟩ := K
      refine zw_callV (n := 2) (As := [.int v1, .int x3]) (rest := []) ct my_X8_puts rfl rfl k_X8_125 i_X8_puts s_X8_puts zs_56 rfl dX8_read_33 (by decide) (Nat.le_of_ble_eq_true rfl) (Nat.le_refl 0) (Nat.le_refl 0) rfl (fun r s1 h4 hq => ?_)
      obtain ⟨x4, rfl, rfl, hq⟩ := hq
      have K := K x4 h4 hq
      refine zw.st (st' := [.int x4]) rfl ?_
      exact zw_ireturn (ty := .int) dX8_read_36 rfl rfl (Nat.le_refl 0) (Nat.le_refl 0) ⟨_, rfl, rfl, K⟩
    · have K := K.2 c
      refine zw_bipush (v := (-10 : Int32)) dX8_read_20 (by decide) rfl ?_
      refine zw_iload_n 0 dX8_read_22 rfl rfl rfl ?_
      refine zw_isub dX8_read_23 rfl ?_
      refine zw_goto (np := 36) dX8_read_24 (by decide) ?_
      exact zw_ireturn (ty := .int) dX8_read_36 rfl rfl (Nat.le_refl 0) (Nat.le_refl 0) ⟨_, rfl, rfl, K⟩
  · have K := K.2 c
    refine zw_iconst (v := (-1 : Int32)) dX8_read_7 (by decide) rfl ?_
    exact zw_ireturn (ty := .int) dX8_read_8 rfl rfl (Nat.le_refl 0) (Nat.le_refl 0) ⟨_, rfl, rfl, K⟩

set_option maxRecDepth 100000 in
set_option maxHeartbeats 4000000 in
theorem rX8_finest_0 {q : Int32 → zw_H → Prop} {h : zw_H} {v1 : Int32} (K : (∃ q1 : Int32 → zw_H → Prop, zcI 1 mX8_isRegister [.int v1] h q1 ∧ (∀ (x1 : Int32) (h1 : zw_H), q1 x1 h1 → ((x1 = 0 → q (-1 : Int32) h1) ∧ (¬ x1 = 0 → (∃ q2 : Int32 → zw_H → Prop, zcI 1 mX8_puts [.ref 56, .int v1, .int ((h1.1 56 7) - (1 : Int32))] h1 q2 ∧ (∀ (x2 : Int32) (h2 : zw_H), q2 x2 h2 → q x2 h2))))))) : zwI 2 mX8_finest q 0 [(0, .ref 56), (1, .int v1)] [] h := by
  refine zw_iload_n 1 dX8_finest_0 rfl rfl rfl ?_
  obtain ⟨q1, ct, K⟩ := K
  refine zw_callS (n := 1) (As := [.int v1]) (rest := []) ct my_X8_isRegister rfl rfl k_X8_115 t_X8_isRegister dX8_finest_1 (by decide) (Nat.le_of_ble_eq_true rfl) (Nat.le_refl 0) (Nat.le_refl 0) rfl (fun r s1 h1 hq => ?_)
  obtain ⟨x1, rfl, rfl, hq⟩ := hq
  have K := K x1 h1 hq
  refine zw.st (st' := [.int x1]) rfl ?_
  refine zw_if_eq (tg := 21) dX8_finest_4 (by decide) rfl (fun c => ?_) (fun c => ?_)
  · have K := K.1 c
    refine zw_iconst (v := (-1 : Int32)) dX8_finest_21 (by decide) rfl ?_
    exact zw_ireturn (ty := .int) dX8_finest_22 rfl rfl (Nat.le_refl 0) (Nat.le_refl 0) ⟨_, rfl, rfl, K⟩
  · have K := K.2 c
    refine zw_aload_n 0 dX8_finest_7 rfl rfl rfl ?_
    refine zw_iload_n 1 dX8_finest_8 rfl rfl rfl ?_
    refine zw_aload_n 0 dX8_finest_9 rfl rfl rfl ?_
    refine zw_getI f_X8_52 dX8_finest_10 zs_56 rfl rfl ?_
    refine zw_iconst (v := (1 : Int32)) dX8_finest_13 (by decide) rfl ?_
    refine zw_isub dX8_finest_14 rfl ?_
    obtain ⟨q2, ct, K⟩ := K
    refine zw_callV (n := 2) (As := [.int v1, .int ((h1.1 56 7) - (1 : Int32))]) (rest := []) ct my_X8_puts rfl rfl k_X8_125 i_X8_puts s_X8_puts zs_56 rfl dX8_finest_15 (by decide) (Nat.le_of_ble_eq_true rfl) (Nat.le_refl 0) (Nat.le_refl 0) rfl (fun r s1 h2 hq => ?_)
    obtain ⟨x2, rfl, rfl, hq⟩ := hq
    have K := K x2 h2 hq
    refine zw.st (st' := [.int x2]) rfl ?_
    refine zw_goto (np := 22) dX8_finest_18 (by decide) ?_
    exact zw_ireturn (ty := .int) dX8_finest_22 rfl rfl (Nat.le_refl 0) (Nat.le_refl 0) ⟨_, rfl, rfl, K⟩

set_option maxRecDepth 100000 in
set_option maxHeartbeats 4000000 in
theorem rX8_coarsest_0 {q : Int32 → zw_H → Prop} {h : zw_H} {v1 : Int32} (K : (∃ q1 : Int32 → zw_H → Prop, zcI 1 mX8_isRegister [.int v1] h q1 ∧ (∀ (x1 : Int32) (h1 : zw_H), q1 x1 h1 → ((x1 = 0 → q (-1 : Int32) h1) ∧ (¬ x1 = 0 → (∃ q2 : Int32 → zw_H → Prop, zcI 1 mX8_puts [.ref 56, .int v1, .int (0 : Int32)] h1 q2 ∧ (∀ (x2 : Int32) (h2 : zw_H), q2 x2 h2 → q x2 h2))))))) : zwI 2 mX8_coarsest q 0 [(0, .ref 56), (1, .int v1)] [] h := by
  refine zw_iload_n 1 dX8_coarsest_0 rfl rfl rfl ?_
  obtain ⟨q1, ct, K⟩ := K
  refine zw_callS (n := 1) (As := [.int v1]) (rest := []) ct my_X8_isRegister rfl rfl k_X8_115 t_X8_isRegister dX8_coarsest_1 (by decide) (Nat.le_of_ble_eq_true rfl) (Nat.le_refl 0) (Nat.le_refl 0) rfl (fun r s1 h1 hq => ?_)
  obtain ⟨x1, rfl, rfl, hq⟩ := hq
  have K := K x1 h1 hq
  refine zw.st (st' := [.int x1]) rfl ?_
  refine zw_if_eq (tg := 16) dX8_coarsest_4 (by decide) rfl (fun c => ?_) (fun c => ?_)
  · have K := K.1 c
    refine zw_iconst (v := (-1 : Int32)) dX8_coarsest_16 (by decide) rfl ?_
    exact zw_ireturn (ty := .int) dX8_coarsest_17 rfl rfl (Nat.le_refl 0) (Nat.le_refl 0) ⟨_, rfl, rfl, K⟩
  · have K := K.2 c
    refine zw_aload_n 0 dX8_coarsest_7 rfl rfl rfl ?_
    refine zw_iload_n 1 dX8_coarsest_8 rfl rfl rfl ?_
    refine zw_iconst (v := (0 : Int32)) dX8_coarsest_9 (by decide) rfl ?_
    obtain ⟨q2, ct, K⟩ := K
    refine zw_callV (n := 2) (As := [.int v1, .int (0 : Int32)]) (rest := []) ct my_X8_puts rfl rfl k_X8_125 i_X8_puts s_X8_puts zs_56 rfl dX8_coarsest_10 (by decide) (Nat.le_of_ble_eq_true rfl) (Nat.le_refl 0) (Nat.le_refl 0) rfl (fun r s1 h2 hq => ?_)
    obtain ⟨x2, rfl, rfl, hq⟩ := hq
    have K := K x2 h2 hq
    refine zw.st (st' := [.int x2]) rfl ?_
    refine zw_goto (np := 17) dX8_coarsest_13 (by decide) ?_
    exact zw_ireturn (ty := .int) dX8_coarsest_17 rfl rfl (Nat.le_refl 0) (Nat.le_refl 0) ⟨_, rfl, rfl, K⟩

set_option maxRecDepth 100000 in
set_option maxHeartbeats 4000000 in
theorem rX8_wrong_0 {q : Int32 → zw_H → Prop} {h : zw_H} {v1 : Int32} (K : (∃ q1 : Int32 → zw_H → Prop, zcI 1 mX8_isRegister [.int v1] h q1 ∧ (∀ (x1 : Int32) (h1 : zw_H), q1 x1 h1 → ((¬ x1 = 0 → (∃ q2 : Int32 → zw_H → Prop, zcI 0 mX8_held [.ref 56, .int v1] h1 q2 ∧ (∀ (x2 : Int32) (h2 : zw_H), q2 x2 h2 → ((¬ x2 = (-9 : Int32) → q (0 : Int32) h2) ∧ (x2 = (-9 : Int32) → q (-2 : Int32) h2))))) ∧ (x1 = 0 → q (-1 : Int32) h1))))) : zwI 2 mX8_wrong q 0 [(0, .ref 56), (1, .int v1)] [] h := by
  refine zw_iload_n 1 dX8_wrong_0 rfl rfl rfl ?_
  obtain ⟨q1, ct, K⟩ := K
  refine zw_callS (n := 1) (As := [.int v1]) (rest := []) ct my_X8_isRegister rfl rfl k_X8_115 t_X8_isRegister dX8_wrong_1 (by decide) (Nat.le_of_ble_eq_true rfl) (Nat.le_refl 0) (Nat.le_refl 0) rfl (fun r s1 h1 hq => ?_)
  obtain ⟨x1, rfl, rfl, hq⟩ := hq
  have K := K x1 h1 hq
  refine zw.st (st' := [.int x1]) rfl ?_
  refine zw_if_ne (tg := 11) dX8_wrong_4 (by decide) rfl (fun c => ?_) (fun c => ?_)
  · have K := K.1 c
    refine zw_aload_n 0 dX8_wrong_11 rfl rfl rfl ?_
    refine zw_iload_n 1 dX8_wrong_12 rfl rfl rfl ?_
    obtain ⟨q2, ct, K⟩ := K
    refine zw_callV (n := 1) (As := [.int v1]) (rest := []) ct my_X8_held rfl rfl k_X8_128 i_X8_held s_X8_held zs_56 rfl dX8_wrong_13 (by decide) (Nat.le_of_ble_eq_true rfl) (Nat.le_refl 0) (Nat.le_refl 0) rfl (fun r s1 h2 hq => ?_)
    obtain ⟨x2, rfl, rfl, hq⟩ := hq
    have K := K x2 h2 hq
    refine zw.st (st' := [.int x2]) rfl ?_
    refine zw_bipush (v := (-9 : Int32)) dX8_wrong_16 (by decide) rfl ?_
    refine zw_icmp_ne (tg := 26) dX8_wrong_18 (by decide) rfl (fun c => ?_) (fun c => ?_)
    · have K := K.1 c
      refine zw_iconst (v := (0 : Int32)) dX8_wrong_26 (by decide) rfl ?_
      exact zw_ireturn (ty := .int) dX8_wrong_27 rfl rfl (Nat.le_refl 0) (Nat.le_refl 0) ⟨_, rfl, rfl, K⟩
    · have K := K.2 c
      refine zw_bipush (v := (-2 : Int32)) dX8_wrong_21 (by decide) rfl ?_
      refine zw_goto (np := 27) dX8_wrong_23 (by decide) ?_
      exact zw_ireturn (ty := .int) dX8_wrong_27 rfl rfl (Nat.le_refl 0) (Nat.le_refl 0) ⟨_, rfl, rfl, K⟩
  · have K := K.2 c
    refine zw_iconst (v := (-1 : Int32)) dX8_wrong_7 (by decide) rfl ?_
    refine zw_goto (np := 27) dX8_wrong_8 (by decide) ?_
    exact zw_ireturn (ty := .int) dX8_wrong_27 rfl rfl (Nat.le_refl 0) (Nat.le_refl 0) ⟨_, rfl, rfl, K⟩

set_option maxRecDepth 100000 in
set_option maxHeartbeats 4000000 in
theorem rX8_wrongOf_0 {q : Int32 → zw_H → Prop} {h : zw_H} {v1 v2 : Int32} (K : (∃ q1 : Int32 → zw_H → Prop, zcI 1 mX8_isRegister [.int v1] h q1 ∧ (∀ (x1 : Int32) (h1 : zw_H), q1 x1 h1 → ((x1 = 0 → q (-1 : Int32) h1) ∧ (¬ x1 = 0 → (∃ q2 : Int32 → zw_H → Prop, zcI 1 mX8_isRegister [.int v2] h1 q2 ∧ (∀ (x2 : Int32) (h2 : zw_H), q2 x2 h2 → ((¬ x2 = 0 → (∃ q3 : Int32 → zw_H → Prop, zcI 0 mX8_held [.ref 56, .int v1] h2 q3 ∧ (∀ (x3 : Int32) (h3 : zw_H), q3 x3 h3 → ((x3 = (-9 : Int32) → q (-2 : Int32) h3) ∧ (¬ x3 = (-9 : Int32) → (∃ q4 : Int32 → zw_H → Prop, zcI 0 mX8_held [.ref 56, .int v2] h3 q4 ∧ (∀ (x4 : Int32) (h4 : zw_H), q4 x4 h4 → ((¬ x4 = (-9 : Int32) → q (0 : Int32) h4) ∧ (x4 = (-9 : Int32) → q (-2 : Int32) h4))))))))) ∧ (x2 = 0 → q (-1 : Int32) h2))))))))) : zwI 2 mX8_wrongOf q 0 [(0, .ref 56), (1, .int v1), (2, .int v2)] [] h := by
  refine zw_iload_n 1 dX8_wrongOf_0 rfl rfl rfl ?_
  obtain ⟨q1, ct, K⟩ := K
  refine zw_callS (n := 1) (As := [.int v1]) (rest := []) ct my_X8_isRegister rfl rfl k_X8_115 t_X8_isRegister dX8_wrongOf_1 (by decide) (Nat.le_of_ble_eq_true rfl) (Nat.le_refl 0) (Nat.le_refl 0) rfl (fun r s1 h1 hq => ?_)
  obtain ⟨x1, rfl, rfl, hq⟩ := hq
  have K := K x1 h1 hq
  refine zw.st (st' := [.int x1]) rfl ?_
  refine zw_if_eq (tg := 14) dX8_wrongOf_4 (by decide) rfl (fun c => ?_) (fun c => ?_)
  · have K := K.1 c
    refine zw_iconst (v := (-1 : Int32)) dX8_wrongOf_14 (by decide) rfl ?_
    refine zw_goto (np := 44) dX8_wrongOf_15 (by decide) ?_
    exact zw_ireturn (ty := .int) dX8_wrongOf_44 rfl rfl (Nat.le_refl 0) (Nat.le_refl 0) ⟨_, rfl, rfl, K⟩
  · have K := K.2 c
    refine zw_iload_n 2 dX8_wrongOf_7 rfl rfl rfl ?_
    obtain ⟨q2, ct, K⟩ := K
    refine zw_callS (n := 1) (As := [.int v2]) (rest := []) ct my_X8_isRegister rfl rfl k_X8_115 t_X8_isRegister dX8_wrongOf_8 (by decide) (Nat.le_of_ble_eq_true rfl) (Nat.le_refl 0) (Nat.le_refl 0) rfl (fun r s1 h2 hq => ?_)
    obtain ⟨x2, rfl, rfl, hq⟩ := hq
    have K := K x2 h2 hq
    refine zw.st (st' := [.int x2]) rfl ?_
    refine zw_if_ne (tg := 18) dX8_wrongOf_11 (by decide) rfl (fun c => ?_) (fun c => ?_)
    · have K := K.1 c
      refine zw_aload_n 0 dX8_wrongOf_18 rfl rfl rfl ?_
      refine zw_iload_n 1 dX8_wrongOf_19 rfl rfl rfl ?_
      obtain ⟨q3, ct, K⟩ := K
      refine zw_callV (n := 1) (As := [.int v1]) (rest := []) ct my_X8_held rfl rfl k_X8_128 i_X8_held s_X8_held zs_56 rfl dX8_wrongOf_20 (by decide) (Nat.le_of_ble_eq_true rfl) (Nat.le_refl 0) (Nat.le_refl 0) rfl (fun r s1 h3 hq => ?_)
      obtain ⟨x3, rfl, rfl, hq⟩ := hq
      have K := K x3 h3 hq
      refine zw.st (st' := [.int x3]) rfl ?_
      refine zw_bipush (v := (-9 : Int32)) dX8_wrongOf_23 (by decide) rfl ?_
      refine zw_icmp_eq (tg := 38) dX8_wrongOf_25 (by decide) rfl (fun c => ?_) (fun c => ?_)
      · have K := K.1 c
        refine zw_bipush (v := (-2 : Int32)) dX8_wrongOf_38 (by decide) rfl ?_
        refine zw_goto (np := 44) dX8_wrongOf_40 (by decide) ?_
        exact zw_ireturn (ty := .int) dX8_wrongOf_44 rfl rfl (Nat.le_refl 0) (Nat.le_refl 0) ⟨_, rfl, rfl, K⟩
      · have K := K.2 c
        refine zw_aload_n 0 dX8_wrongOf_28 rfl rfl rfl ?_
        refine zw_iload_n 2 dX8_wrongOf_29 rfl rfl rfl ?_
        obtain ⟨q4, ct, K⟩ := K
        refine zw_callV (n := 1) (As := [.int v2]) (rest := []) ct my_X8_held rfl rfl k_X8_128 i_X8_held s_X8_held zs_56 rfl dX8_wrongOf_30 (by decide) (Nat.le_of_ble_eq_true rfl) (Nat.le_refl 0) (Nat.le_refl 0) rfl (fun r s1 h4 hq => ?_)
        obtain ⟨x4, rfl, rfl, hq⟩ := hq
        have K := K x4 h4 hq
        refine zw.st (st' := [.int x4]) rfl ?_
        refine zw_bipush (v := (-9 : Int32)) dX8_wrongOf_33 (by decide) rfl ?_
        refine zw_icmp_ne (tg := 43) dX8_wrongOf_35 (by decide) rfl (fun c => ?_) (fun c => ?_)
        · have K := K.1 c
          refine zw_iconst (v := (0 : Int32)) dX8_wrongOf_43 (by decide) rfl ?_
          exact zw_ireturn (ty := .int) dX8_wrongOf_44 rfl rfl (Nat.le_refl 0) (Nat.le_refl 0) ⟨_, rfl, rfl, K⟩
        · have K := K.2 c
          refine zw_bipush (v := (-2 : Int32)) dX8_wrongOf_38 (by decide) rfl ?_
          refine zw_goto (np := 44) dX8_wrongOf_40 (by decide) ?_
          exact zw_ireturn (ty := .int) dX8_wrongOf_44 rfl rfl (Nat.le_refl 0) (Nat.le_refl 0) ⟨_, rfl, rfl, K⟩
    · have K := K.2 c
      refine zw_iconst (v := (-1 : Int32)) dX8_wrongOf_14 (by decide) rfl ?_
      refine zw_goto (np := 44) dX8_wrongOf_15 (by decide) ?_
      exact zw_ireturn (ty := .int) dX8_wrongOf_44 rfl rfl (Nat.le_refl 0) (Nat.le_refl 0) ⟨_, rfl, rfl, K⟩

set_option maxRecDepth 100000 in
set_option maxHeartbeats 4000000 in
theorem rX8_copy_0 {q : Int32 → zw_H → Prop} {h : zw_H} {v1 v2 : Int32} (K : (∃ q1 : Int32 → zw_H → Prop, zcI 1 mX8_isRegister [.int v2] h q1 ∧ (∀ (x1 : Int32) (h1 : zw_H), q1 x1 h1 → ((¬ x1 = 0 → (∃ q2 : Int32 → zw_H → Prop, zcI 2 mX8_wrong [.ref 56, .int v1] h1 q2 ∧ (∀ (x2 : Int32) (h2 : zw_H), q2 x2 h2 → ((x2 = 0 → (∃ q3 : Int32 → zw_H → Prop, zcI 0 mX8_held [.ref 56, .int v1] h2 q3 ∧ (∀ (x3 : Int32) (h3 : zw_H), q3 x3 h3 → (∃ q4 : Int32 → zw_H → Prop, zcI 1 mX8_puts [.ref 56, .int v2, .int x3] h3 q4 ∧ (∀ (x4 : Int32) (h4 : zw_H), q4 x4 h4 → q x4 h4))))) ∧ (¬ x2 = 0 → q x2 h2))))) ∧ (x1 = 0 → q (-1 : Int32) h1))))) : zwI 3 mX8_copy q 0 [(0, .ref 56), (1, .int v1), (2, .int v2)] [] h := by
  refine zw_iload_n 2 dX8_copy_0 rfl rfl rfl ?_
  obtain ⟨q1, ct, K⟩ := K
  refine zw_callS (n := 1) (As := [.int v2]) (rest := []) ct my_X8_isRegister rfl rfl k_X8_115 t_X8_isRegister dX8_copy_1 (by decide) (Nat.le_of_ble_eq_true rfl) (Nat.le_refl 0) (Nat.le_refl 0) rfl (fun r s1 h1 hq => ?_)
  obtain ⟨x1, rfl, rfl, hq⟩ := hq
  have K := K x1 h1 hq
  refine zw.st (st' := [.int x1]) rfl ?_
  refine zw_if_ne (tg := 9) dX8_copy_4 (by decide) rfl (fun c => ?_) (fun c => ?_)
  · have K := K.1 c
    refine zw_aload_n 0 dX8_copy_9 rfl rfl rfl ?_
    refine zw_iload_n 1 dX8_copy_10 rfl rfl rfl ?_
    obtain ⟨q2, ct, K⟩ := K
    refine zw_callV (n := 1) (As := [.int v1]) (rest := []) ct my_X8_wrong rfl rfl k_X8_131 i_X8_wrong s_X8_wrong zs_56 rfl dX8_copy_11 (by decide) (Nat.le_of_ble_eq_true rfl) (Nat.le_refl 0) (Nat.le_refl 0) rfl (fun r s1 h2 hq => ?_)
    obtain ⟨x2, rfl, rfl, hq⟩ := hq
    have K := K x2 h2 hq
    refine zw.st (st' := [.int x2]) rfl ?_
    refine zw_istore_n dX8_copy_14 rfl (by decide) rfl rfl ?_
    refine zw_iload_n 0 dX8_copy_15 rfl rfl rfl ?_
    refine zw_if_eq (tg := 23) dX8_copy_16 (by decide) rfl (fun c => ?_) (fun c => ?_)
    · have K := K.1 c
      refine zw_aload_n 1 dX8_copy_23 rfl rfl rfl ?_
      refine zw_iload_n 3 dX8_copy_24 rfl rfl rfl ?_
      refine zw_aload_n 1 dX8_copy_25 rfl rfl rfl ?_
      refine zw_iload_n 2 dX8_copy_26 rfl rfl rfl ?_
      obtain ⟨q3, ct, K⟩ := K
      refine zw_callV (n := 1) (As := [.int v1]) (rest := [.int v2, .ref 56]) ct my_X8_held rfl rfl k_X8_128 i_X8_held s_X8_held zs_56 rfl dX8_copy_27 (by decide) (Nat.le_of_ble_eq_true rfl) (Nat.le_refl 0) (Nat.le_refl 0) rfl (fun r s1 h3 hq => ?_)
      obtain ⟨x3, rfl, rfl, hq⟩ := hq
      have K := K x3 h3 hq
      refine zw.st (st' := [.int x3, .int v2, .ref 56]) rfl ?_
      obtain ⟨q4, ct, K⟩ := K
      refine zw_callV (n := 2) (As := [.int v2, .int x3]) (rest := []) ct my_X8_puts rfl rfl k_X8_125 i_X8_puts s_X8_puts zs_56 rfl dX8_copy_30 (by decide) (Nat.le_of_ble_eq_true rfl) (Nat.le_refl 0) (Nat.le_refl 0) rfl (fun r s1 h4 hq => ?_)
      obtain ⟨x4, rfl, rfl, hq⟩ := hq
      have K := K x4 h4 hq
      refine zw.st (st' := [.int x4]) rfl ?_
      exact zw_ireturn (ty := .int) dX8_copy_33 rfl rfl (Nat.le_refl 0) (Nat.le_refl 0) ⟨_, rfl, rfl, K⟩
    · have K := K.2 c
      refine zw_iload_n 0 dX8_copy_19 rfl rfl rfl ?_
      refine zw_goto (np := 33) dX8_copy_20 (by decide) ?_
      exact zw_ireturn (ty := .int) dX8_copy_33 rfl rfl (Nat.le_refl 0) (Nat.le_refl 0) ⟨_, rfl, rfl, K⟩
  · have K := K.2 c
    refine zw_iconst (v := (-1 : Int32)) dX8_copy_7 (by decide) rfl ?_
    exact zw_ireturn (ty := .int) dX8_copy_8 rfl rfl (Nat.le_refl 0) (Nat.le_refl 0) ⟨_, rfl, rfl, K⟩

set_option maxRecDepth 100000 in
set_option maxHeartbeats 4000000 in
theorem rX8_meet_0 {q : Int32 → zw_H → Prop} {h : zw_H} {v1 v2 v3 : Int32} (K : (∃ q1 : Int32 → zw_H → Prop, zcI 1 mX8_isRegister [.int v3] h q1 ∧ (∀ (x1 : Int32) (h1 : zw_H), q1 x1 h1 → ((¬ x1 = 0 → (∃ q2 : Int32 → zw_H → Prop, zcI 2 mX8_wrongOf [.ref 56, .int v1, .int v2] h1 q2 ∧ (∀ (x2 : Int32) (h2 : zw_H), q2 x2 h2 → ((x2 = 0 → zwI 3 mX8_meet q 28 [(0, .ref 56), (1, .int v1), (2, .int v2), (3, .int v3), (5, .int (0 : Int32))] [] h2) ∧ (¬ x2 = 0 → q x2 h2))))) ∧ (x1 = 0 → q (-1 : Int32) h1))))) : zwI 3 mX8_meet q 0 [(0, .ref 56), (1, .int v1), (2, .int v2), (3, .int v3)] [] h := by
  refine zw_iload_n 3 dX8_meet_0 rfl rfl rfl ?_
  obtain ⟨q1, ct, K⟩ := K
  refine zw_callS (n := 1) (As := [.int v3]) (rest := []) ct my_X8_isRegister rfl rfl k_X8_115 t_X8_isRegister dX8_meet_1 (by decide) (Nat.le_of_ble_eq_true rfl) (Nat.le_refl 0) (Nat.le_refl 0) rfl (fun r s1 h1 hq => ?_)
  obtain ⟨x1, rfl, rfl, hq⟩ := hq
  have K := K x1 h1 hq
  refine zw.st (st' := [.int x1]) rfl ?_
  refine zw_if_ne (tg := 9) dX8_meet_4 (by decide) rfl (fun c => ?_) (fun c => ?_)
  · have K := K.1 c
    refine zw_aload_n 0 dX8_meet_9 rfl rfl rfl ?_
    refine zw_iload_n 1 dX8_meet_10 rfl rfl rfl ?_
    refine zw_iload_n 2 dX8_meet_11 rfl rfl rfl ?_
    obtain ⟨q2, ct, K⟩ := K
    refine zw_callV (n := 2) (As := [.int v1, .int v2]) (rest := []) ct my_X8_wrongOf rfl rfl k_X8_134 i_X8_wrongOf s_X8_wrongOf zs_56 rfl dX8_meet_12 (by decide) (Nat.le_of_ble_eq_true rfl) (Nat.le_refl 0) (Nat.le_refl 0) rfl (fun r s1 h2 hq => ?_)
    obtain ⟨x2, rfl, rfl, hq⟩ := hq
    have K := K x2 h2 hq
    refine zw.st (st' := [.int x2]) rfl ?_
    refine zw_istore dX8_meet_15 (by decide) rfl rfl ?_
    refine zw_iload 0 dX8_meet_17 rfl rfl ?_
    refine zw_if_eq (tg := 25) dX8_meet_19 (by decide) rfl (fun c => ?_) (fun c => ?_)
    · have K := K.1 c
      refine zw_iconst (v := (0 : Int32)) dX8_meet_25 (by decide) rfl ?_
      refine zw_istore dX8_meet_26 (by decide) rfl rfl ?_
      exact zw.sub [2, 3, 4, 5, 0] rfl K
    · have K := K.2 c
      refine zw_iload 0 dX8_meet_22 rfl rfl ?_
      exact zw_ireturn (ty := .int) dX8_meet_24 rfl rfl (Nat.le_refl 0) (Nat.le_refl 0) ⟨_, rfl, rfl, K⟩
  · have K := K.2 c
    refine zw_iconst (v := (-1 : Int32)) dX8_meet_7 (by decide) rfl ?_
    exact zw_ireturn (ty := .int) dX8_meet_8 rfl rfl (Nat.le_refl 0) (Nat.le_refl 0) ⟨_, rfl, rfl, K⟩

set_option maxRecDepth 100000 in
set_option maxHeartbeats 4000000 in
theorem rX8_meet_28 {q : Int32 → zw_H → Prop} {h : zw_H} {v1 v2 v3 v5 : Int32} (K : (((h.1 57 0) ≤ v5 → (∃ q1 : Int32 → zw_H → Prop, zcI 1 mX8_numberOf [.ref 56] h q1 ∧ (∀ (x1 : Int32) (h1 : zw_H), q1 x1 h1 → (∃ q2 : Int32 → zw_H → Prop, zcI 1 mX8_puts [.ref 56, .int v3, .int x1] h1 q2 ∧ (∀ (x2 : Int32) (h2 : zw_H), q2 x2 h2 → q x2 h2))))) ∧ (¬ (h.1 57 0) ≤ v5 → (∃ q3 : Int32 → zw_H → Prop, zcI 0 mX8_held [.ref 56, .int v1] h q3 ∧ (∀ (x3 : Int32) (h3 : zw_H), q3 x3 h3 → (∃ q4 : Int32 → zw_H → Prop, zcI 0 mX8_at [.ref 56, .int x3, .int v5] h3 q4 ∧ (∀ (x4 : Int32) (h4 : zw_H), q4 x4 h4 → (∃ q5 : Int32 → zw_H → Prop, zcI 0 mX8_held [.ref 56, .int v2] h4 q5 ∧ (∀ (x5 : Int32) (h5 : zw_H), q5 x5 h5 → (∃ q6 : Int32 → zw_H → Prop, zcI 0 mX8_at [.ref 56, .int x5, .int v5] h5 q6 ∧ (∀ (x6 : Int32) (h6 : zw_H), q6 x6 h6 → (∃ j7 : Nat, v5 = nI j7 ∧ j7 < 6 ∧ ∀ h8 : zw_H, h8 = zw_sI h6 62 j7 (((6 : Int32) * x4) + x6) → zwI 3 mX8_meet q 28 [(0, .ref 56), (1, .int v1), (2, .int v2), (3, .int v3), (5, .int (v5 + (1 : Int32)))] [] h8)))))))))))) : zwI 3 mX8_meet q 28 [(0, .ref 56), (1, .int v1), (2, .int v2), (3, .int v3), (5, .int v5)] [] h := by
  refine zw_iload 4 dX8_meet_28 rfl rfl ?_
  refine zw_aload_n 0 dX8_meet_30 rfl rfl rfl ?_
  refine zw_getR f_X8_7 dX8_meet_31 zs_56 rfl rfl ?_
  refine zw_iconst (v := (0 : Int32)) dX8_meet_34 (by decide) rfl ?_
  refine zw_iald 0 dX8_meet_35 zs_57 ⟨by decide, by decide⟩ (by decide) rfl ?_
  refine zw_icmp_ge (tg := 78) dX8_meet_36 (by decide) rfl (fun c => ?_) (fun c => ?_)
  · have K := K.1 c
    refine zw_aload_n 0 dX8_meet_78 rfl rfl rfl ?_
    refine zw_iload_n 3 dX8_meet_79 rfl rfl rfl ?_
    refine zw_aload_n 0 dX8_meet_80 rfl rfl rfl ?_
    obtain ⟨q1, ct, K⟩ := K
    refine zw_callV (n := 0) (As := []) (rest := [.int v3, .ref 56]) ct my_X8_numberOf rfl rfl k_X8_122 i_X8_numberOf s_X8_numberOf zs_56 rfl dX8_meet_81 (by decide) (Nat.le_of_ble_eq_true rfl) (Nat.le_refl 0) (Nat.le_refl 0) rfl (fun r s1 h1 hq => ?_)
    obtain ⟨x1, rfl, rfl, hq⟩ := hq
    have K := K x1 h1 hq
    refine zw.st (st' := [.int x1, .int v3, .ref 56]) rfl ?_
    obtain ⟨q2, ct, K⟩ := K
    refine zw_callV (n := 2) (As := [.int v3, .int x1]) (rest := []) ct my_X8_puts rfl rfl k_X8_125 i_X8_puts s_X8_puts zs_56 rfl dX8_meet_84 (by decide) (Nat.le_of_ble_eq_true rfl) (Nat.le_refl 0) (Nat.le_refl 0) rfl (fun r s1 h2 hq => ?_)
    obtain ⟨x2, rfl, rfl, hq⟩ := hq
    have K := K x2 h2 hq
    refine zw.st (st' := [.int x2]) rfl ?_
    exact zw_ireturn (ty := .int) dX8_meet_87 rfl rfl (Nat.le_refl 0) (Nat.le_refl 0) ⟨_, rfl, rfl, K⟩
  · have K := K.2 c
    refine zw_aload_n 0 dX8_meet_39 rfl rfl rfl ?_
    refine zw_getR f_X8_25 dX8_meet_40 zs_56 rfl rfl ?_
    refine zw_iload 4 dX8_meet_43 rfl rfl ?_
    refine zw_bipush (v := (6 : Int32)) dX8_meet_45 (by decide) rfl ?_
    refine zw_aload_n 0 dX8_meet_47 rfl rfl rfl ?_
    refine zw_aload_n 0 dX8_meet_48 rfl rfl rfl ?_
    refine zw_iload_n 1 dX8_meet_49 rfl rfl rfl ?_
    obtain ⟨q3, ct, K⟩ := K
    refine zw_callV (n := 1) (As := [.int v1]) (rest := [.ref 56, .int (6 : Int32), .int v5, .ref 62]) ct my_X8_held rfl rfl k_X8_128 i_X8_held s_X8_held zs_56 rfl dX8_meet_50 (by decide) (Nat.le_of_ble_eq_true rfl) (Nat.le_refl 0) (Nat.le_refl 0) rfl (fun r s1 h3 hq => ?_)
    obtain ⟨x3, rfl, rfl, hq⟩ := hq
    have K := K x3 h3 hq
    refine zw.st (st' := [.int x3, .ref 56, .int (6 : Int32), .int v5, .ref 62]) rfl ?_
    refine zw_iload 4 dX8_meet_53 rfl rfl ?_
    obtain ⟨q4, ct, K⟩ := K
    refine zw_callV (n := 2) (As := [.int x3, .int v5]) (rest := [.int (6 : Int32), .int v5, .ref 62]) ct my_X8_at rfl rfl k_X8_65 i_X8_at s_X8_at zs_56 rfl dX8_meet_55 (by decide) (Nat.le_of_ble_eq_true rfl) (Nat.le_refl 0) (Nat.le_refl 0) rfl (fun r s1 h4 hq => ?_)
    obtain ⟨x4, rfl, rfl, hq⟩ := hq
    have K := K x4 h4 hq
    refine zw.st (st' := [.int x4, .int (6 : Int32), .int v5, .ref 62]) rfl ?_
    refine zw_imul dX8_meet_58 rfl ?_
    refine zw_aload_n 0 dX8_meet_59 rfl rfl rfl ?_
    refine zw_aload_n 0 dX8_meet_60 rfl rfl rfl ?_
    refine zw_iload_n 2 dX8_meet_61 rfl rfl rfl ?_
    obtain ⟨q5, ct, K⟩ := K
    refine zw_callV (n := 1) (As := [.int v2]) (rest := [.ref 56, .int ((6 : Int32) * x4), .int v5, .ref 62]) ct my_X8_held rfl rfl k_X8_128 i_X8_held s_X8_held zs_56 rfl dX8_meet_62 (by decide) (Nat.le_of_ble_eq_true rfl) (Nat.le_refl 0) (Nat.le_refl 0) rfl (fun r s1 h5 hq => ?_)
    obtain ⟨x5, rfl, rfl, hq⟩ := hq
    have K := K x5 h5 hq
    refine zw.st (st' := [.int x5, .ref 56, .int ((6 : Int32) * x4), .int v5, .ref 62]) rfl ?_
    refine zw_iload 4 dX8_meet_65 rfl rfl ?_
    obtain ⟨q6, ct, K⟩ := K
    refine zw_callV (n := 2) (As := [.int x5, .int v5]) (rest := [.int ((6 : Int32) * x4), .int v5, .ref 62]) ct my_X8_at rfl rfl k_X8_65 i_X8_at s_X8_at zs_56 rfl dX8_meet_67 (by decide) (Nat.le_of_ble_eq_true rfl) (Nat.le_refl 0) (Nat.le_refl 0) rfl (fun r s1 h6 hq => ?_)
    obtain ⟨x6, rfl, rfl, hq⟩ := hq
    have K := K x6 h6 hq
    refine zw.st (st' := [.int x6, .int ((6 : Int32) * x4), .int v5, .ref 62]) rfl ?_
    refine zw_iadd dX8_meet_70 rfl ?_
    obtain ⟨j7, hj7, hn7, K⟩ := K
    refine zw_iast j7 dX8_meet_71 zs_62 ⟨hj7, hn7⟩ (by decide) rfl ?_
    generalize e8 : zw_sI h6 62 j7 (((6 : Int32) * x4) + x6) = h8
    have K := K h8 e8.symm
    refine zw_iinc (v := (v5 + (1 : Int32))) 4 dX8_meet_72 rfl rfl (by decide) rfl rfl ?_
    refine zw_goto (np := 28) dX8_meet_75 (by decide) ?_
    exact zw.sub [1, 2, 3, 4, 0] rfl K

set_option maxRecDepth 100000 in
set_option maxHeartbeats 4000000 in
theorem rX8_merges_0 {q : zw_H → Prop} {h : zw_H} {v1 v2 : Int32} (K : zwV 0 mX8_merges q 2 [(0, .ref 56), (1, .int v1), (2, .int v2), (3, .int (0 : Int32))] [] h) : zwV 0 mX8_merges q 0 [(0, .ref 56), (1, .int v1), (2, .int v2)] [] h := by
  refine zw_iconst (v := (0 : Int32)) dX8_merges_0 (by decide) rfl ?_
  refine zw_istore_n dX8_merges_1 rfl (by decide) rfl rfl ?_
  exact zw.sub [1, 2, 3, 0] rfl K

set_option maxRecDepth 100000 in
set_option maxHeartbeats 4000000 in
theorem rX8_merges_2 {q : zw_H → Prop} {h : zw_H} {v1 v2 v3 : Int32} (K : (((h.1 57 0) ≤ v3 → q h) ∧ (¬ (h.1 57 0) ≤ v3 → (∃ j1 : Nat, v3 = nI j1 ∧ j1 < 6 ∧ ((¬ (h.1 62 j1) = v2 → (∃ j2 : Nat, v3 = nI j2 ∧ j2 < 6 ∧ (∃ j3 : Nat, v3 = nI j3 ∧ j3 < 6 ∧ ∀ h4 : zw_H, h4 = zw_sI h 62 j3 (h.1 62 j2) → zwV 0 mX8_merges q 2 [(0, .ref 56), (1, .int v1), (2, .int v2), (3, .int (v3 + (1 : Int32)))] [] h4))) ∧ ((h.1 62 j1) = v2 → (∃ j5 : Nat, v3 = nI j5 ∧ j5 < 6 ∧ ∀ h6 : zw_H, h6 = zw_sI h 62 j5 v1 → zwV 0 mX8_merges q 2 [(0, .ref 56), (1, .int v1), (2, .int v2), (3, .int (v3 + (1 : Int32)))] [] h6))))))) : zwV 0 mX8_merges q 2 [(0, .ref 56), (1, .int v1), (2, .int v2), (3, .int v3)] [] h := by
  refine zw_iload_n 3 dX8_merges_2 rfl rfl rfl ?_
  refine zw_aload_n 0 dX8_merges_3 rfl rfl rfl ?_
  refine zw_getR f_X8_7 dX8_merges_4 zs_56 rfl rfl ?_
  refine zw_iconst (v := (0 : Int32)) dX8_merges_7 (by decide) rfl ?_
  refine zw_iald 0 dX8_merges_8 zs_57 ⟨by decide, by decide⟩ (by decide) rfl ?_
  refine zw_icmp_ge (tg := 44) dX8_merges_9 (by decide) rfl (fun c => ?_) (fun c => ?_)
  · have K := K.1 c
    exact zw_return dX8_merges_44 rfl (Nat.le_refl 0) (Nat.le_refl 0) ⟨rfl, rfl, K⟩
  · have K := K.2 c
    refine zw_aload_n 0 dX8_merges_12 rfl rfl rfl ?_
    refine zw_getR f_X8_25 dX8_merges_13 zs_56 rfl rfl ?_
    refine zw_iload_n 3 dX8_merges_16 rfl rfl rfl ?_
    refine zw_aload_n 0 dX8_merges_17 rfl rfl rfl ?_
    refine zw_getR f_X8_25 dX8_merges_18 zs_56 rfl rfl ?_
    refine zw_iload_n 3 dX8_merges_21 rfl rfl rfl ?_
    obtain ⟨j1, hj1, hn1, K⟩ := K
    refine zw_iald j1 dX8_merges_22 zs_62 ⟨hj1, hn1⟩ (by decide) rfl ?_
    refine zw_iload_n 2 dX8_merges_23 rfl rfl rfl ?_
    refine zw_icmp_ne (tg := 31) dX8_merges_24 (by decide) rfl (fun c => ?_) (fun c => ?_)
    · have K := K.1 c
      refine zw_aload_n 0 dX8_merges_31 rfl rfl rfl ?_
      refine zw_getR f_X8_25 dX8_merges_32 zs_56 rfl rfl ?_
      refine zw_iload_n 3 dX8_merges_35 rfl rfl rfl ?_
      obtain ⟨j2, hj2, hn2, K⟩ := K
      refine zw_iald j2 dX8_merges_36 zs_62 ⟨hj2, hn2⟩ (by decide) rfl ?_
      obtain ⟨j3, hj3, hn3, K⟩ := K
      refine zw_iast j3 dX8_merges_37 zs_62 ⟨hj3, hn3⟩ (by decide) rfl ?_
      generalize e4 : zw_sI h 62 j3 (h.1 62 j2) = h4
      have K := K h4 e4.symm
      refine zw_iinc (v := (v3 + (1 : Int32))) 3 dX8_merges_38 rfl rfl (by decide) rfl rfl ?_
      refine zw_goto (np := 2) dX8_merges_41 (by decide) ?_
      exact zw.sub [1, 2, 3, 0] rfl K
    · have K := K.2 c
      refine zw_iload_n 1 dX8_merges_27 rfl rfl rfl ?_
      refine zw_goto (np := 37) dX8_merges_28 (by decide) ?_
      obtain ⟨j5, hj5, hn5, K⟩ := K
      refine zw_iast j5 dX8_merges_37 zs_62 ⟨hj5, hn5⟩ (by decide) rfl ?_
      generalize e6 : zw_sI h 62 j5 v1 = h6
      have K := K h6 e6.symm
      refine zw_iinc (v := (v3 + (1 : Int32))) 3 dX8_merges_38 rfl rfl (by decide) rfl rfl ?_
      refine zw_goto (np := 2) dX8_merges_41 (by decide) ?_
      exact zw.sub [1, 2, 3, 0] rfl K

set_option maxRecDepth 100000 in
set_option maxHeartbeats 4000000 in
theorem rX8_join_0 {q : Int32 → zw_H → Prop} {h : zw_H} {v1 v2 v3 : Int32} (K : (∃ q1 : Int32 → zw_H → Prop, zcI 1 mX8_isRegister [.int v3] h q1 ∧ (∀ (x1 : Int32) (h1 : zw_H), q1 x1 h1 → ((¬ x1 = 0 → (∃ q2 : Int32 → zw_H → Prop, zcI 2 mX8_wrongOf [.ref 56, .int v1, .int v2] h1 q2 ∧ (∀ (x2 : Int32) (h2 : zw_H), q2 x2 h2 → ((x2 = 0 → (∃ q3 : Int32 → zw_H → Prop, zcI 0 mX8_held [.ref 56, .int v1] h2 q3 ∧ (∀ (x3 : Int32) (h3 : zw_H), q3 x3 h3 → (∃ q4 : zw_H → Prop, zcV 1 mX8_takes [.ref 56, .int x3] h3 q4 ∧ (∀ h4 : zw_H, q4 h4 → zwI 3 mX8_join q 37 [(0, .ref 56), (2, .int v2), (3, .int v3), (5, .int (0 : Int32))] [] h4))))) ∧ (¬ x2 = 0 → q x2 h2))))) ∧ (x1 = 0 → q (-1 : Int32) h1))))) : zwI 3 mX8_join q 0 [(0, .ref 56), (1, .int v1), (2, .int v2), (3, .int v3)] [] h := by
  refine zw_iload_n 3 dX8_join_0 rfl rfl rfl ?_
  obtain ⟨q1, ct, K⟩ := K
  refine zw_callS (n := 1) (As := [.int v3]) (rest := []) ct my_X8_isRegister rfl rfl k_X8_115 t_X8_isRegister dX8_join_1 (by decide) (Nat.le_of_ble_eq_true rfl) (Nat.le_refl 0) (Nat.le_refl 0) rfl (fun r s1 h1 hq => ?_)
  obtain ⟨x1, rfl, rfl, hq⟩ := hq
  have K := K x1 h1 hq
  refine zw.st (st' := [.int x1]) rfl ?_
  refine zw_if_ne (tg := 9) dX8_join_4 (by decide) rfl (fun c => ?_) (fun c => ?_)
  · have K := K.1 c
    refine zw_aload_n 0 dX8_join_9 rfl rfl rfl ?_
    refine zw_iload_n 1 dX8_join_10 rfl rfl rfl ?_
    refine zw_iload_n 2 dX8_join_11 rfl rfl rfl ?_
    obtain ⟨q2, ct, K⟩ := K
    refine zw_callV (n := 2) (As := [.int v1, .int v2]) (rest := []) ct my_X8_wrongOf rfl rfl k_X8_134 i_X8_wrongOf s_X8_wrongOf zs_56 rfl dX8_join_12 (by decide) (Nat.le_of_ble_eq_true rfl) (Nat.le_refl 0) (Nat.le_refl 0) rfl (fun r s1 h2 hq => ?_)
    obtain ⟨x2, rfl, rfl, hq⟩ := hq
    have K := K x2 h2 hq
    refine zw.st (st' := [.int x2]) rfl ?_
    refine zw_istore dX8_join_15 (by decide) rfl rfl ?_
    refine zw_iload 0 dX8_join_17 rfl rfl ?_
    refine zw_if_eq (tg := 25) dX8_join_19 (by decide) rfl (fun c => ?_) (fun c => ?_)
    · have K := K.1 c
      refine zw_aload_n 1 dX8_join_25 rfl rfl rfl ?_
      refine zw_aload_n 1 dX8_join_26 rfl rfl rfl ?_
      refine zw_iload_n 2 dX8_join_27 rfl rfl rfl ?_
      obtain ⟨q3, ct, K⟩ := K
      refine zw_callV (n := 1) (As := [.int v1]) (rest := [.ref 56]) ct my_X8_held rfl rfl k_X8_128 i_X8_held s_X8_held zs_56 rfl dX8_join_28 (by decide) (Nat.le_of_ble_eq_true rfl) (Nat.le_refl 0) (Nat.le_refl 0) rfl (fun r s1 h3 hq => ?_)
      obtain ⟨x3, rfl, rfl, hq⟩ := hq
      have K := K x3 h3 hq
      refine zw.st (st' := [.int x3, .ref 56]) rfl ?_
      obtain ⟨q4, ct, K⟩ := K
      refine zw_callV (n := 1) (As := [.int x3]) (rest := []) ct my_X8_takes rfl rfl k_X8_137 i_X8_takes s_X8_takes zs_56 rfl dX8_join_31 (by decide) (Nat.le_of_ble_eq_true rfl) (Nat.le_refl 0) (Nat.le_refl 0) rfl (fun r s1 h4 hq => ?_)
      obtain ⟨rfl, rfl, hq⟩ := hq
      have K := K h4 hq
      refine zw.st (st' := []) rfl ?_
      refine zw_iconst (v := (0 : Int32)) dX8_join_34 (by decide) rfl ?_
      refine zw_istore dX8_join_35 (by decide) rfl rfl ?_
      exact zw.sub [2, 4, 5, 0] rfl K
    · have K := K.2 c
      refine zw_iload 0 dX8_join_22 rfl rfl ?_
      exact zw_ireturn (ty := .int) dX8_join_24 rfl rfl (Nat.le_refl 0) (Nat.le_refl 0) ⟨_, rfl, rfl, K⟩
  · have K := K.2 c
    refine zw_iconst (v := (-1 : Int32)) dX8_join_7 (by decide) rfl ?_
    exact zw_ireturn (ty := .int) dX8_join_8 rfl rfl (Nat.le_refl 0) (Nat.le_refl 0) ⟨_, rfl, rfl, K⟩

set_option maxRecDepth 100000 in
set_option maxHeartbeats 4000000 in
theorem rX8_join_37 {q : Int32 → zw_H → Prop} {h : zw_H} {v2 v3 v5 : Int32} (K : (((h.1 57 0) ≤ v5 → (∃ q1 : Int32 → zw_H → Prop, zcI 1 mX8_numberOf [.ref 56] h q1 ∧ (∀ (x1 : Int32) (h1 : zw_H), q1 x1 h1 → (∃ q2 : Int32 → zw_H → Prop, zcI 1 mX8_puts [.ref 56, .int v3, .int x1] h1 q2 ∧ (∀ (x2 : Int32) (h2 : zw_H), q2 x2 h2 → q x2 h2))))) ∧ (¬ (h.1 57 0) ≤ v5 → zwI 3 mX8_join q 51 [(0, .ref 56), (2, .int v2), (3, .int v3), (5, .int v5), (6, .int (0 : Int32))] [] h))) : zwI 3 mX8_join q 37 [(0, .ref 56), (2, .int v2), (3, .int v3), (5, .int v5)] [] h := by
  refine zw_iload 3 dX8_join_37 rfl rfl ?_
  refine zw_aload_n 0 dX8_join_39 rfl rfl rfl ?_
  refine zw_getR f_X8_7 dX8_join_40 zs_56 rfl rfl ?_
  refine zw_iconst (v := (0 : Int32)) dX8_join_43 (by decide) rfl ?_
  refine zw_iald 0 dX8_join_44 zs_57 ⟨by decide, by decide⟩ (by decide) rfl ?_
  refine zw_icmp_ge (tg := 113) dX8_join_45 (by decide) rfl (fun c => ?_) (fun c => ?_)
  · have K := K.1 c
    refine zw_aload_n 0 dX8_join_113 rfl rfl rfl ?_
    refine zw_iload_n 2 dX8_join_114 rfl rfl rfl ?_
    refine zw_aload_n 0 dX8_join_115 rfl rfl rfl ?_
    obtain ⟨q1, ct, K⟩ := K
    refine zw_callV (n := 0) (As := []) (rest := [.int v3, .ref 56]) ct my_X8_numberOf rfl rfl k_X8_122 i_X8_numberOf s_X8_numberOf zs_56 rfl dX8_join_116 (by decide) (Nat.le_of_ble_eq_true rfl) (Nat.le_refl 0) (Nat.le_refl 0) rfl (fun r s1 h1 hq => ?_)
    obtain ⟨x1, rfl, rfl, hq⟩ := hq
    have K := K x1 h1 hq
    refine zw.st (st' := [.int x1, .int v3, .ref 56]) rfl ?_
    obtain ⟨q2, ct, K⟩ := K
    refine zw_callV (n := 2) (As := [.int v3, .int x1]) (rest := []) ct my_X8_puts rfl rfl k_X8_125 i_X8_puts s_X8_puts zs_56 rfl dX8_join_119 (by decide) (Nat.le_of_ble_eq_true rfl) (Nat.le_refl 0) (Nat.le_refl 0) rfl (fun r s1 h2 hq => ?_)
    obtain ⟨x2, rfl, rfl, hq⟩ := hq
    have K := K x2 h2 hq
    refine zw.st (st' := [.int x2]) rfl ?_
    exact zw_ireturn (ty := .int) dX8_join_122 rfl rfl (Nat.le_refl 0) (Nat.le_refl 0) ⟨_, rfl, rfl, K⟩
  · have K := K.2 c
    refine zw_iconst (v := (0 : Int32)) dX8_join_48 (by decide) rfl ?_
    refine zw_istore dX8_join_49 (by decide) rfl rfl ?_
    exact zw.sub [1, 2, 3, 4, 0] rfl K

set_option maxRecDepth 100000 in
set_option maxHeartbeats 4000000 in
theorem rX8_join_51 {q : Int32 → zw_H → Prop} {h : zw_H} {v2 v3 v5 v6 : Int32} (K : ((v5 ≤ v6 → zwI 3 mX8_join q 37 [(0, .ref 56), (2, .int v2), (3, .int v3), (5, .int (v5 + (1 : Int32)))] [] h) ∧ (¬ v5 ≤ v6 → (∃ q1 : Int32 → zw_H → Prop, zcI 0 mX8_held [.ref 56, .int v2] h q1 ∧ (∀ (x1 : Int32) (h1 : zw_H), q1 x1 h1 → (∃ q2 : Int32 → zw_H → Prop, zcI 0 mX8_at [.ref 56, .int x1, .int v5] h1 q2 ∧ (∀ (x2 : Int32) (h2 : zw_H), q2 x2 h2 → (∃ q3 : Int32 → zw_H → Prop, zcI 0 mX8_held [.ref 56, .int v2] h2 q3 ∧ (∀ (x3 : Int32) (h3 : zw_H), q3 x3 h3 → (∃ q4 : Int32 → zw_H → Prop, zcI 0 mX8_at [.ref 56, .int x3, .int v6] h3 q4 ∧ (∀ (x4 : Int32) (h4 : zw_H), q4 x4 h4 → ((¬ x2 = x4 → zwI 3 mX8_join q 51 [(0, .ref 56), (2, .int v2), (3, .int v3), (5, .int v5), (6, .int (v6 + (1 : Int32)))] [] h4) ∧ (x2 = x4 → (∃ j5 : Nat, v5 = nI j5 ∧ j5 < 6 ∧ (∃ j6 : Nat, v6 = nI j6 ∧ j6 < 6 ∧ (∃ q7 : zw_H → Prop, zcV 0 mX8_merges [.ref 56, .int (h4.1 62 j5), .int (h4.1 62 j6)] h4 q7 ∧ (∀ h7 : zw_H, q7 h7 → zwI 3 mX8_join q 51 [(0, .ref 56), (2, .int v2), (3, .int v3), (5, .int v5), (6, .int (v6 + (1 : Int32)))] [] h7))))))))))))))))) : zwI 3 mX8_join q 51 [(0, .ref 56), (2, .int v2), (3, .int v3), (5, .int v5), (6, .int v6)] [] h := by
  refine zw_iload 4 dX8_join_51 rfl rfl ?_
  refine zw_iload 3 dX8_join_53 rfl rfl ?_
  refine zw_icmp_ge (tg := 107) dX8_join_55 (by decide) rfl (fun c => ?_) (fun c => ?_)
  · have K := K.1 c
    refine zw_iinc (v := (v5 + (1 : Int32))) 3 dX8_join_107 rfl rfl (by decide) rfl rfl ?_
    refine zw_goto (np := 37) dX8_join_110 (by decide) ?_
    exact zw.sub [1, 2, 3, 0] rfl K
  · have K := K.2 c
    refine zw_aload_n 0 dX8_join_58 rfl rfl rfl ?_
    refine zw_aload_n 0 dX8_join_59 rfl rfl rfl ?_
    refine zw_iload_n 1 dX8_join_60 rfl rfl rfl ?_
    obtain ⟨q1, ct, K⟩ := K
    refine zw_callV (n := 1) (As := [.int v2]) (rest := [.ref 56]) ct my_X8_held rfl rfl k_X8_128 i_X8_held s_X8_held zs_56 rfl dX8_join_61 (by decide) (Nat.le_of_ble_eq_true rfl) (Nat.le_refl 0) (Nat.le_refl 0) rfl (fun r s1 h1 hq => ?_)
    obtain ⟨x1, rfl, rfl, hq⟩ := hq
    have K := K x1 h1 hq
    refine zw.st (st' := [.int x1, .ref 56]) rfl ?_
    refine zw_iload 3 dX8_join_64 rfl rfl ?_
    obtain ⟨q2, ct, K⟩ := K
    refine zw_callV (n := 2) (As := [.int x1, .int v5]) (rest := []) ct my_X8_at rfl rfl k_X8_65 i_X8_at s_X8_at zs_56 rfl dX8_join_66 (by decide) (Nat.le_of_ble_eq_true rfl) (Nat.le_refl 0) (Nat.le_refl 0) rfl (fun r s1 h2 hq => ?_)
    obtain ⟨x2, rfl, rfl, hq⟩ := hq
    have K := K x2 h2 hq
    refine zw.st (st' := [.int x2]) rfl ?_
    refine zw_aload_n 0 dX8_join_69 rfl rfl rfl ?_
    refine zw_aload_n 0 dX8_join_70 rfl rfl rfl ?_
    refine zw_iload_n 1 dX8_join_71 rfl rfl rfl ?_
    obtain ⟨q3, ct, K⟩ := K
    refine zw_callV (n := 1) (As := [.int v2]) (rest := [.ref 56, .int x2]) ct my_X8_held rfl rfl k_X8_128 i_X8_held s_X8_held zs_56 rfl dX8_join_72 (by decide) (Nat.le_of_ble_eq_true rfl) (Nat.le_refl 0) (Nat.le_refl 0) rfl (fun r s1 h3 hq => ?_)
    obtain ⟨x3, rfl, rfl, hq⟩ := hq
    have K := K x3 h3 hq
    refine zw.st (st' := [.int x3, .ref 56, .int x2]) rfl ?_
    refine zw_iload 4 dX8_join_75 rfl rfl ?_
    obtain ⟨q4, ct, K⟩ := K
    refine zw_callV (n := 2) (As := [.int x3, .int v6]) (rest := [.int x2]) ct my_X8_at rfl rfl k_X8_65 i_X8_at s_X8_at zs_56 rfl dX8_join_77 (by decide) (Nat.le_of_ble_eq_true rfl) (Nat.le_refl 0) (Nat.le_refl 0) rfl (fun r s1 h4 hq => ?_)
    obtain ⟨x4, rfl, rfl, hq⟩ := hq
    have K := K x4 h4 hq
    refine zw.st (st' := [.int x4, .int x2]) rfl ?_
    refine zw_icmp_ne (tg := 101) dX8_join_80 (by decide) rfl (fun c => ?_) (fun c => ?_)
    · have K := K.1 c
      refine zw_iinc (v := (v6 + (1 : Int32))) 4 dX8_join_101 rfl rfl (by decide) rfl rfl ?_
      refine zw_goto (np := 51) dX8_join_104 (by decide) ?_
      exact zw.sub [1, 2, 3, 4, 0] rfl K
    · have K := K.2 c
      refine zw_aload_n 0 dX8_join_83 rfl rfl rfl ?_
      refine zw_aload_n 0 dX8_join_84 rfl rfl rfl ?_
      refine zw_getR f_X8_25 dX8_join_85 zs_56 rfl rfl ?_
      refine zw_iload 3 dX8_join_88 rfl rfl ?_
      obtain ⟨j5, hj5, hn5, K⟩ := K
      refine zw_iald j5 dX8_join_90 zs_62 ⟨hj5, hn5⟩ (by decide) rfl ?_
      refine zw_aload_n 0 dX8_join_91 rfl rfl rfl ?_
      refine zw_getR f_X8_25 dX8_join_92 zs_56 rfl rfl ?_
      refine zw_iload 4 dX8_join_95 rfl rfl ?_
      obtain ⟨j6, hj6, hn6, K⟩ := K
      refine zw_iald j6 dX8_join_97 zs_62 ⟨hj6, hn6⟩ (by decide) rfl ?_
      obtain ⟨q7, ct, K⟩ := K
      refine zw_callV (n := 2) (As := [.int (h4.1 62 j5), .int (h4.1 62 j6)]) (rest := []) ct my_X8_merges rfl rfl k_X8_140 i_X8_merges s_X8_merges zs_56 rfl dX8_join_98 (by decide) (Nat.le_of_ble_eq_true rfl) (Nat.le_refl 0) (Nat.le_refl 0) rfl (fun r s1 h7 hq => ?_)
      obtain ⟨rfl, rfl, hq⟩ := hq
      have K := K h7 hq
      refine zw.st (st' := []) rfl ?_
      refine zw_iinc (v := (v6 + (1 : Int32))) 4 dX8_join_101 rfl rfl (by decide) rfl rfl ?_
      refine zw_goto (np := 51) dX8_join_104 (by decide) ?_
      exact zw.sub [1, 2, 3, 4, 0] rfl K

set_option maxRecDepth 100000 in
set_option maxHeartbeats 4000000 in
theorem rX8_unite_0 {q : Int32 → zw_H → Prop} {h : zw_H} {v1 v2 v3 : Int32} (K : (∃ q1 : Int32 → zw_H → Prop, zcI 1 mX8_isRegister [.int v1] h q1 ∧ (∀ (x1 : Int32) (h1 : zw_H), q1 x1 h1 → ((x1 = 0 → q (-1 : Int32) h1) ∧ (¬ x1 = 0 → (∃ q2 : Int32 → zw_H → Prop, zcI 1 mX8_isElement [.ref 56, .int v2] h1 q2 ∧ (∀ (x2 : Int32) (h2 : zw_H), q2 x2 h2 → ((x2 = 0 → q (-1 : Int32) h2) ∧ (¬ x2 = 0 → (∃ q3 : Int32 → zw_H → Prop, zcI 1 mX8_isElement [.ref 56, .int v3] h2 q3 ∧ (∀ (x3 : Int32) (h3 : zw_H), q3 x3 h3 → ((¬ x3 = 0 → (∃ q4 : Int32 → zw_H → Prop, zcI 0 mX8_held [.ref 56, .int v1] h3 q4 ∧ (∀ (x4 : Int32) (h4 : zw_H), q4 x4 h4 → ((¬ x4 = (-9 : Int32) → (∃ q5 : Int32 → zw_H → Prop, zcI 0 mX8_held [.ref 56, .int v1] h4 q5 ∧ (∀ (x5 : Int32) (h5 : zw_H), q5 x5 h5 → (∃ q6 : zw_H → Prop, zcV 1 mX8_takes [.ref 56, .int x5] h5 q6 ∧ (∀ h6 : zw_H, q6 h6 → (∃ j7 : Nat, v2 = nI j7 ∧ j7 < 6 ∧ (∃ j8 : Nat, v3 = nI j8 ∧ j8 < 6 ∧ (∃ q9 : zw_H → Prop, zcV 0 mX8_merges [.ref 56, .int (h6.1 62 j7), .int (h6.1 62 j8)] h6 q9 ∧ (∀ h9 : zw_H, q9 h9 → (∃ q10 : Int32 → zw_H → Prop, zcI 1 mX8_numberOf [.ref 56] h9 q10 ∧ (∀ (x10 : Int32) (h10 : zw_H), q10 x10 h10 → (∃ q11 : Int32 → zw_H → Prop, zcI 1 mX8_puts [.ref 56, .int v1, .int x10] h10 q11 ∧ (∀ (x11 : Int32) (h11 : zw_H), q11 x11 h11 → q x11 h11))))))))))))) ∧ (x4 = (-9 : Int32) → q (-2 : Int32) h4))))) ∧ (x3 = 0 → q (-1 : Int32) h3))))))))))))) : zwI 2 mX8_unite q 0 [(0, .ref 56), (1, .int v1), (2, .int v2), (3, .int v3)] [] h := by
  refine zw_iload_n 1 dX8_unite_0 rfl rfl rfl ?_
  obtain ⟨q1, ct, K⟩ := K
  refine zw_callS (n := 1) (As := [.int v1]) (rest := []) ct my_X8_isRegister rfl rfl k_X8_115 t_X8_isRegister dX8_unite_1 (by decide) (Nat.le_of_ble_eq_true rfl) (Nat.le_refl 0) (Nat.le_refl 0) rfl (fun r s1 h1 hq => ?_)
  obtain ⟨x1, rfl, rfl, hq⟩ := hq
  have K := K x1 h1 hq
  refine zw.st (st' := [.int x1]) rfl ?_
  refine zw_if_eq (tg := 23) dX8_unite_4 (by decide) rfl (fun c => ?_) (fun c => ?_)
  · have K := K.1 c
    refine zw_iconst (v := (-1 : Int32)) dX8_unite_23 (by decide) rfl ?_
    exact zw_ireturn (ty := .int) dX8_unite_24 rfl rfl (Nat.le_refl 0) (Nat.le_refl 0) ⟨_, rfl, rfl, K⟩
  · have K := K.2 c
    refine zw_aload_n 0 dX8_unite_7 rfl rfl rfl ?_
    refine zw_iload_n 2 dX8_unite_8 rfl rfl rfl ?_
    obtain ⟨q2, ct, K⟩ := K
    refine zw_callV (n := 1) (As := [.int v2]) (rest := []) ct my_X8_isElement rfl rfl k_X8_105 i_X8_isElement s_X8_isElement zs_56 rfl dX8_unite_9 (by decide) (Nat.le_of_ble_eq_true rfl) (Nat.le_refl 0) (Nat.le_refl 0) rfl (fun r s1 h2 hq => ?_)
    obtain ⟨x2, rfl, rfl, hq⟩ := hq
    have K := K x2 h2 hq
    refine zw.st (st' := [.int x2]) rfl ?_
    refine zw_if_eq (tg := 23) dX8_unite_12 (by decide) rfl (fun c => ?_) (fun c => ?_)
    · have K := K.1 c
      refine zw_iconst (v := (-1 : Int32)) dX8_unite_23 (by decide) rfl ?_
      exact zw_ireturn (ty := .int) dX8_unite_24 rfl rfl (Nat.le_refl 0) (Nat.le_refl 0) ⟨_, rfl, rfl, K⟩
    · have K := K.2 c
      refine zw_aload_n 0 dX8_unite_15 rfl rfl rfl ?_
      refine zw_iload_n 3 dX8_unite_16 rfl rfl rfl ?_
      obtain ⟨q3, ct, K⟩ := K
      refine zw_callV (n := 1) (As := [.int v3]) (rest := []) ct my_X8_isElement rfl rfl k_X8_105 i_X8_isElement s_X8_isElement zs_56 rfl dX8_unite_17 (by decide) (Nat.le_of_ble_eq_true rfl) (Nat.le_refl 0) (Nat.le_refl 0) rfl (fun r s1 h3 hq => ?_)
      obtain ⟨x3, rfl, rfl, hq⟩ := hq
      have K := K x3 h3 hq
      refine zw.st (st' := [.int x3]) rfl ?_
      refine zw_if_ne (tg := 25) dX8_unite_20 (by decide) rfl (fun c => ?_) (fun c => ?_)
      · have K := K.1 c
        refine zw_aload_n 0 dX8_unite_25 rfl rfl rfl ?_
        refine zw_iload_n 1 dX8_unite_26 rfl rfl rfl ?_
        obtain ⟨q4, ct, K⟩ := K
        refine zw_callV (n := 1) (As := [.int v1]) (rest := []) ct my_X8_held rfl rfl k_X8_128 i_X8_held s_X8_held zs_56 rfl dX8_unite_27 (by decide) (Nat.le_of_ble_eq_true rfl) (Nat.le_refl 0) (Nat.le_refl 0) rfl (fun r s1 h4 hq => ?_)
        obtain ⟨x4, rfl, rfl, hq⟩ := hq
        have K := K x4 h4 hq
        refine zw.st (st' := [.int x4]) rfl ?_
        refine zw_bipush (v := (-9 : Int32)) dX8_unite_30 (by decide) rfl ?_
        refine zw_icmp_ne (tg := 38) dX8_unite_32 (by decide) rfl (fun c => ?_) (fun c => ?_)
        · have K := K.1 c
          refine zw_aload_n 0 dX8_unite_38 rfl rfl rfl ?_
          refine zw_aload_n 0 dX8_unite_39 rfl rfl rfl ?_
          refine zw_iload_n 1 dX8_unite_40 rfl rfl rfl ?_
          obtain ⟨q5, ct, K⟩ := K
          refine zw_callV (n := 1) (As := [.int v1]) (rest := [.ref 56]) ct my_X8_held rfl rfl k_X8_128 i_X8_held s_X8_held zs_56 rfl dX8_unite_41 (by decide) (Nat.le_of_ble_eq_true rfl) (Nat.le_refl 0) (Nat.le_refl 0) rfl (fun r s1 h5 hq => ?_)
          obtain ⟨x5, rfl, rfl, hq⟩ := hq
          have K := K x5 h5 hq
          refine zw.st (st' := [.int x5, .ref 56]) rfl ?_
          obtain ⟨q6, ct, K⟩ := K
          refine zw_callV (n := 1) (As := [.int x5]) (rest := []) ct my_X8_takes rfl rfl k_X8_137 i_X8_takes s_X8_takes zs_56 rfl dX8_unite_44 (by decide) (Nat.le_of_ble_eq_true rfl) (Nat.le_refl 0) (Nat.le_refl 0) rfl (fun r s1 h6 hq => ?_)
          obtain ⟨rfl, rfl, hq⟩ := hq
          have K := K h6 hq
          refine zw.st (st' := []) rfl ?_
          refine zw_aload_n 0 dX8_unite_47 rfl rfl rfl ?_
          refine zw_aload_n 0 dX8_unite_48 rfl rfl rfl ?_
          refine zw_getR f_X8_25 dX8_unite_49 zs_56 rfl rfl ?_
          refine zw_iload_n 2 dX8_unite_52 rfl rfl rfl ?_
          obtain ⟨j7, hj7, hn7, K⟩ := K
          refine zw_iald j7 dX8_unite_53 zs_62 ⟨hj7, hn7⟩ (by decide) rfl ?_
          refine zw_aload_n 0 dX8_unite_54 rfl rfl rfl ?_
          refine zw_getR f_X8_25 dX8_unite_55 zs_56 rfl rfl ?_
          refine zw_iload_n 3 dX8_unite_58 rfl rfl rfl ?_
          obtain ⟨j8, hj8, hn8, K⟩ := K
          refine zw_iald j8 dX8_unite_59 zs_62 ⟨hj8, hn8⟩ (by decide) rfl ?_
          obtain ⟨q9, ct, K⟩ := K
          refine zw_callV (n := 2) (As := [.int (h6.1 62 j7), .int (h6.1 62 j8)]) (rest := []) ct my_X8_merges rfl rfl k_X8_140 i_X8_merges s_X8_merges zs_56 rfl dX8_unite_60 (by decide) (Nat.le_of_ble_eq_true rfl) (Nat.le_refl 0) (Nat.le_refl 0) rfl (fun r s1 h9 hq => ?_)
          obtain ⟨rfl, rfl, hq⟩ := hq
          have K := K h9 hq
          refine zw.st (st' := []) rfl ?_
          refine zw_aload_n 0 dX8_unite_63 rfl rfl rfl ?_
          refine zw_iload_n 1 dX8_unite_64 rfl rfl rfl ?_
          refine zw_aload_n 0 dX8_unite_65 rfl rfl rfl ?_
          obtain ⟨q10, ct, K⟩ := K
          refine zw_callV (n := 0) (As := []) (rest := [.int v1, .ref 56]) ct my_X8_numberOf rfl rfl k_X8_122 i_X8_numberOf s_X8_numberOf zs_56 rfl dX8_unite_66 (by decide) (Nat.le_of_ble_eq_true rfl) (Nat.le_refl 0) (Nat.le_refl 0) rfl (fun r s1 h10 hq => ?_)
          obtain ⟨x10, rfl, rfl, hq⟩ := hq
          have K := K x10 h10 hq
          refine zw.st (st' := [.int x10, .int v1, .ref 56]) rfl ?_
          obtain ⟨q11, ct, K⟩ := K
          refine zw_callV (n := 2) (As := [.int v1, .int x10]) (rest := []) ct my_X8_puts rfl rfl k_X8_125 i_X8_puts s_X8_puts zs_56 rfl dX8_unite_69 (by decide) (Nat.le_of_ble_eq_true rfl) (Nat.le_refl 0) (Nat.le_refl 0) rfl (fun r s1 h11 hq => ?_)
          obtain ⟨x11, rfl, rfl, hq⟩ := hq
          have K := K x11 h11 hq
          refine zw.st (st' := [.int x11]) rfl ?_
          exact zw_ireturn (ty := .int) dX8_unite_72 rfl rfl (Nat.le_refl 0) (Nat.le_refl 0) ⟨_, rfl, rfl, K⟩
        · have K := K.2 c
          refine zw_bipush (v := (-2 : Int32)) dX8_unite_35 (by decide) rfl ?_
          exact zw_ireturn (ty := .int) dX8_unite_37 rfl rfl (Nat.le_refl 0) (Nat.le_refl 0) ⟨_, rfl, rfl, K⟩
      · have K := K.2 c
        refine zw_iconst (v := (-1 : Int32)) dX8_unite_23 (by decide) rfl ?_
        exact zw_ireturn (ty := .int) dX8_unite_24 rfl rfl (Nat.le_refl 0) (Nat.le_refl 0) ⟨_, rfl, rfl, K⟩

set_option maxRecDepth 100000 in
set_option maxHeartbeats 4000000 in
theorem rX8_isolate_0 {q : Int32 → zw_H → Prop} {h : zw_H} {v1 v2 : Int32} (K : (∃ q1 : Int32 → zw_H → Prop, zcI 1 mX8_isRegister [.int v1] h q1 ∧ (∀ (x1 : Int32) (h1 : zw_H), q1 x1 h1 → ((x1 = 0 → q (-1 : Int32) h1) ∧ (¬ x1 = 0 → (∃ q2 : Int32 → zw_H → Prop, zcI 1 mX8_isElement [.ref 56, .int v2] h1 q2 ∧ (∀ (x2 : Int32) (h2 : zw_H), q2 x2 h2 → ((¬ x2 = 0 → (∃ q3 : Int32 → zw_H → Prop, zcI 0 mX8_held [.ref 56, .int v1] h2 q3 ∧ (∀ (x3 : Int32) (h3 : zw_H), q3 x3 h3 → ((¬ x3 = (-9 : Int32) → (∃ q4 : Int32 → zw_H → Prop, zcI 0 mX8_held [.ref 56, .int v1] h3 q4 ∧ (∀ (x4 : Int32) (h4 : zw_H), q4 x4 h4 → (∃ q5 : zw_H → Prop, zcV 1 mX8_takes [.ref 56, .int x4] h4 q5 ∧ (∀ h5 : zw_H, q5 h5 → (∃ j6 : Nat, v2 = nI j6 ∧ j6 < 6 ∧ ∀ h7 : zw_H, h7 = zw_sI h5 62 j6 (6 : Int32) → (∃ q8 : Int32 → zw_H → Prop, zcI 1 mX8_numberOf [.ref 56] h7 q8 ∧ (∀ (x8 : Int32) (h8 : zw_H), q8 x8 h8 → (∃ q9 : Int32 → zw_H → Prop, zcI 1 mX8_puts [.ref 56, .int v1, .int x8] h8 q9 ∧ (∀ (x9 : Int32) (h9 : zw_H), q9 x9 h9 → q x9 h9)))))))))) ∧ (x3 = (-9 : Int32) → q (-2 : Int32) h3))))) ∧ (x2 = 0 → q (-1 : Int32) h2))))))))) : zwI 2 mX8_isolate q 0 [(0, .ref 56), (1, .int v1), (2, .int v2)] [] h := by
  refine zw_iload_n 1 dX8_isolate_0 rfl rfl rfl ?_
  obtain ⟨q1, ct, K⟩ := K
  refine zw_callS (n := 1) (As := [.int v1]) (rest := []) ct my_X8_isRegister rfl rfl k_X8_115 t_X8_isRegister dX8_isolate_1 (by decide) (Nat.le_of_ble_eq_true rfl) (Nat.le_refl 0) (Nat.le_refl 0) rfl (fun r s1 h1 hq => ?_)
  obtain ⟨x1, rfl, rfl, hq⟩ := hq
  have K := K x1 h1 hq
  refine zw.st (st' := [.int x1]) rfl ?_
  refine zw_if_eq (tg := 15) dX8_isolate_4 (by decide) rfl (fun c => ?_) (fun c => ?_)
  · have K := K.1 c
    refine zw_iconst (v := (-1 : Int32)) dX8_isolate_15 (by decide) rfl ?_
    exact zw_ireturn (ty := .int) dX8_isolate_16 rfl rfl (Nat.le_refl 0) (Nat.le_refl 0) ⟨_, rfl, rfl, K⟩
  · have K := K.2 c
    refine zw_aload_n 0 dX8_isolate_7 rfl rfl rfl ?_
    refine zw_iload_n 2 dX8_isolate_8 rfl rfl rfl ?_
    obtain ⟨q2, ct, K⟩ := K
    refine zw_callV (n := 1) (As := [.int v2]) (rest := []) ct my_X8_isElement rfl rfl k_X8_105 i_X8_isElement s_X8_isElement zs_56 rfl dX8_isolate_9 (by decide) (Nat.le_of_ble_eq_true rfl) (Nat.le_refl 0) (Nat.le_refl 0) rfl (fun r s1 h2 hq => ?_)
    obtain ⟨x2, rfl, rfl, hq⟩ := hq
    have K := K x2 h2 hq
    refine zw.st (st' := [.int x2]) rfl ?_
    refine zw_if_ne (tg := 17) dX8_isolate_12 (by decide) rfl (fun c => ?_) (fun c => ?_)
    · have K := K.1 c
      refine zw_aload_n 0 dX8_isolate_17 rfl rfl rfl ?_
      refine zw_iload_n 1 dX8_isolate_18 rfl rfl rfl ?_
      obtain ⟨q3, ct, K⟩ := K
      refine zw_callV (n := 1) (As := [.int v1]) (rest := []) ct my_X8_held rfl rfl k_X8_128 i_X8_held s_X8_held zs_56 rfl dX8_isolate_19 (by decide) (Nat.le_of_ble_eq_true rfl) (Nat.le_refl 0) (Nat.le_refl 0) rfl (fun r s1 h3 hq => ?_)
      obtain ⟨x3, rfl, rfl, hq⟩ := hq
      have K := K x3 h3 hq
      refine zw.st (st' := [.int x3]) rfl ?_
      refine zw_bipush (v := (-9 : Int32)) dX8_isolate_22 (by decide) rfl ?_
      refine zw_icmp_ne (tg := 30) dX8_isolate_24 (by decide) rfl (fun c => ?_) (fun c => ?_)
      · have K := K.1 c
        refine zw_aload_n 0 dX8_isolate_30 rfl rfl rfl ?_
        refine zw_aload_n 0 dX8_isolate_31 rfl rfl rfl ?_
        refine zw_iload_n 1 dX8_isolate_32 rfl rfl rfl ?_
        obtain ⟨q4, ct, K⟩ := K
        refine zw_callV (n := 1) (As := [.int v1]) (rest := [.ref 56]) ct my_X8_held rfl rfl k_X8_128 i_X8_held s_X8_held zs_56 rfl dX8_isolate_33 (by decide) (Nat.le_of_ble_eq_true rfl) (Nat.le_refl 0) (Nat.le_refl 0) rfl (fun r s1 h4 hq => ?_)
        obtain ⟨x4, rfl, rfl, hq⟩ := hq
        have K := K x4 h4 hq
        refine zw.st (st' := [.int x4, .ref 56]) rfl ?_
        obtain ⟨q5, ct, K⟩ := K
        refine zw_callV (n := 1) (As := [.int x4]) (rest := []) ct my_X8_takes rfl rfl k_X8_137 i_X8_takes s_X8_takes zs_56 rfl dX8_isolate_36 (by decide) (Nat.le_of_ble_eq_true rfl) (Nat.le_refl 0) (Nat.le_refl 0) rfl (fun r s1 h5 hq => ?_)
        obtain ⟨rfl, rfl, hq⟩ := hq
        have K := K h5 hq
        refine zw.st (st' := []) rfl ?_
        refine zw_aload_n 0 dX8_isolate_39 rfl rfl rfl ?_
        refine zw_getR f_X8_25 dX8_isolate_40 zs_56 rfl rfl ?_
        refine zw_iload_n 2 dX8_isolate_43 rfl rfl rfl ?_
        refine zw_bipush (v := (6 : Int32)) dX8_isolate_44 (by decide) rfl ?_
        obtain ⟨j6, hj6, hn6, K⟩ := K
        refine zw_iast j6 dX8_isolate_46 zs_62 ⟨hj6, hn6⟩ (by decide) rfl ?_
        generalize e7 : zw_sI h5 62 j6 (6 : Int32) = h7
        have K := K h7 e7.symm
        refine zw_aload_n 0 dX8_isolate_47 rfl rfl rfl ?_
        refine zw_iload_n 1 dX8_isolate_48 rfl rfl rfl ?_
        refine zw_aload_n 0 dX8_isolate_49 rfl rfl rfl ?_
        obtain ⟨q8, ct, K⟩ := K
        refine zw_callV (n := 0) (As := []) (rest := [.int v1, .ref 56]) ct my_X8_numberOf rfl rfl k_X8_122 i_X8_numberOf s_X8_numberOf zs_56 rfl dX8_isolate_50 (by decide) (Nat.le_of_ble_eq_true rfl) (Nat.le_refl 0) (Nat.le_refl 0) rfl (fun r s1 h8 hq => ?_)
        obtain ⟨x8, rfl, rfl, hq⟩ := hq
        have K := K x8 h8 hq
        refine zw.st (st' := [.int x8, .int v1, .ref 56]) rfl ?_
        obtain ⟨q9, ct, K⟩ := K
        refine zw_callV (n := 2) (As := [.int v1, .int x8]) (rest := []) ct my_X8_puts rfl rfl k_X8_125 i_X8_puts s_X8_puts zs_56 rfl dX8_isolate_53 (by decide) (Nat.le_of_ble_eq_true rfl) (Nat.le_refl 0) (Nat.le_refl 0) rfl (fun r s1 h9 hq => ?_)
        obtain ⟨x9, rfl, rfl, hq⟩ := hq
        have K := K x9 h9 hq
        refine zw.st (st' := [.int x9]) rfl ?_
        exact zw_ireturn (ty := .int) dX8_isolate_56 rfl rfl (Nat.le_refl 0) (Nat.le_refl 0) ⟨_, rfl, rfl, K⟩
      · have K := K.2 c
        refine zw_bipush (v := (-2 : Int32)) dX8_isolate_27 (by decide) rfl ?_
        exact zw_ireturn (ty := .int) dX8_isolate_29 rfl rfl (Nat.le_refl 0) (Nat.le_refl 0) ⟨_, rfl, rfl, K⟩
    · have K := K.2 c
      refine zw_iconst (v := (-1 : Int32)) dX8_isolate_15 (by decide) rfl ?_
      exact zw_ireturn (ty := .int) dX8_isolate_16 rfl rfl (Nat.le_refl 0) (Nat.le_refl 0) ⟨_, rfl, rfl, K⟩

set_option maxRecDepth 100000 in
set_option maxHeartbeats 4000000 in
theorem rX8_changes_0 {q : Int32 → zw_H → Prop} {h : zw_H} {v1 v2 : Int32} (K : (∃ q1 : Int32 → zw_H → Prop, zcI 0 mX8_held [.ref 56, .int v1] h q1 ∧ (∀ (x1 : Int32) (h1 : zw_H), q1 x1 h1 → (∃ q2 : Int32 → zw_H → Prop, zcI 1 mX8_puts [.ref 56, .int v1, .int v2] h1 q2 ∧ (∀ (x2 : Int32) (h2 : zw_H), q2 x2 h2 → ((v2 = x1 → q (0 : Int32) h2) ∧ (¬ v2 = x1 → q (1 : Int32) h2))))))) : zwI 2 mX8_changes q 0 [(0, .ref 56), (1, .int v1), (2, .int v2)] [] h := by
  refine zw_aload_n 0 dX8_changes_0 rfl rfl rfl ?_
  refine zw_iload_n 1 dX8_changes_1 rfl rfl rfl ?_
  obtain ⟨q1, ct, K⟩ := K
  refine zw_callV (n := 1) (As := [.int v1]) (rest := []) ct my_X8_held rfl rfl k_X8_128 i_X8_held s_X8_held zs_56 rfl dX8_changes_2 (by decide) (Nat.le_of_ble_eq_true rfl) (Nat.le_refl 0) (Nat.le_refl 0) rfl (fun r s1 h1 hq => ?_)
  obtain ⟨x1, rfl, rfl, hq⟩ := hq
  have K := K x1 h1 hq
  refine zw.st (st' := [.int x1]) rfl ?_
  refine zw_istore_n dX8_changes_5 rfl (by decide) rfl rfl ?_
  refine zw_aload_n 1 dX8_changes_6 rfl rfl rfl ?_
  refine zw_iload_n 2 dX8_changes_7 rfl rfl rfl ?_
  refine zw_iload_n 3 dX8_changes_8 rfl rfl rfl ?_
  obtain ⟨q2, ct, K⟩ := K
  refine zw_callV (n := 2) (As := [.int v1, .int v2]) (rest := []) ct my_X8_puts rfl rfl k_X8_125 i_X8_puts s_X8_puts zs_56 rfl dX8_changes_9 (by decide) (Nat.le_of_ble_eq_true rfl) (Nat.le_refl 0) (Nat.le_refl 0) rfl (fun r s1 h2 hq => ?_)
  obtain ⟨x2, rfl, rfl, hq⟩ := hq
  have K := K x2 h2 hq
  refine zw.st (st' := [.int x2]) rfl ?_
  refine zw_pop dX8_changes_12 rfl rfl ?_
  refine zw_iload_n 3 dX8_changes_13 rfl rfl rfl ?_
  refine zw_iload_n 0 dX8_changes_14 rfl rfl rfl ?_
  refine zw_icmp_eq (tg := 22) dX8_changes_15 (by decide) rfl (fun c => ?_) (fun c => ?_)
  · have K := K.1 c
    refine zw_iconst (v := (0 : Int32)) dX8_changes_22 (by decide) rfl ?_
    exact zw_ireturn (ty := .int) dX8_changes_23 rfl rfl (Nat.le_refl 0) (Nat.le_refl 0) ⟨_, rfl, rfl, K⟩
  · have K := K.2 c
    refine zw_iconst (v := (1 : Int32)) dX8_changes_18 (by decide) rfl ?_
    refine zw_goto (np := 23) dX8_changes_19 (by decide) ?_
    exact zw_ireturn (ty := .int) dX8_changes_23 rfl rfl (Nat.le_refl 0) (Nat.le_refl 0) ⟨_, rfl, rfl, K⟩

set_option maxRecDepth 100000 in
set_option maxHeartbeats 4000000 in
theorem rX8_swap_0 {q : Int32 → zw_H → Prop} {h : zw_H} {v1 v2 v3 : Int32} (K : (∃ q1 : Int32 → zw_H → Prop, zcI 1 mX8_isRegister [.int v1] h q1 ∧ (∀ (x1 : Int32) (h1 : zw_H), q1 x1 h1 → ((x1 = 0 → q (-1 : Int32) h1) ∧ (¬ x1 = 0 → (∃ q2 : Int32 → zw_H → Prop, zcI 1 mX8_isElement [.ref 56, .int v2] h1 q2 ∧ (∀ (x2 : Int32) (h2 : zw_H), q2 x2 h2 → ((x2 = 0 → q (-1 : Int32) h2) ∧ (¬ x2 = 0 → (∃ q3 : Int32 → zw_H → Prop, zcI 1 mX8_isElement [.ref 56, .int v3] h2 q3 ∧ (∀ (x3 : Int32) (h3 : zw_H), q3 x3 h3 → ((¬ x3 = 0 → (∃ q4 : Int32 → zw_H → Prop, zcI 0 mX8_held [.ref 56, .int v1] h3 q4 ∧ (∀ (x4 : Int32) (h4 : zw_H), q4 x4 h4 → ((¬ x4 = (-9 : Int32) → (∃ q5 : Int32 → zw_H → Prop, zcI 0 mX8_held [.ref 56, .int v1] h4 q5 ∧ (∀ (x5 : Int32) (h5 : zw_H), q5 x5 h5 → (∃ q6 : zw_H → Prop, zcV 1 mX8_takes [.ref 56, .int x5] h5 q6 ∧ (∀ h6 : zw_H, q6 h6 → (∃ j7 : Nat, v2 = nI j7 ∧ j7 < 6 ∧ (∃ j8 : Nat, v3 = nI j8 ∧ j8 < 6 ∧ (∃ j9 : Nat, v2 = nI j9 ∧ j9 < 6 ∧ ∀ h10 : zw_H, h10 = zw_sI h6 62 j9 (h6.1 62 j8) → (∃ j11 : Nat, v3 = nI j11 ∧ j11 < 6 ∧ ∀ h12 : zw_H, h12 = zw_sI h10 62 j11 (h6.1 62 j7) → (∃ q13 : Int32 → zw_H → Prop, zcI 1 mX8_numberOf [.ref 56] h12 q13 ∧ (∀ (x13 : Int32) (h13 : zw_H), q13 x13 h13 → (∃ q14 : Int32 → zw_H → Prop, zcI 2 mX8_changes [.ref 56, .int v1, .int x13] h13 q14 ∧ (∀ (x14 : Int32) (h14 : zw_H), q14 x14 h14 → q x14 h14))))))))))))) ∧ (x4 = (-9 : Int32) → q (-2 : Int32) h4))))) ∧ (x3 = 0 → q (-1 : Int32) h3))))))))))))) : zwI 3 mX8_swap q 0 [(0, .ref 56), (1, .int v1), (2, .int v2), (3, .int v3)] [] h := by
  refine zw_iload_n 1 dX8_swap_0 rfl rfl rfl ?_
  obtain ⟨q1, ct, K⟩ := K
  refine zw_callS (n := 1) (As := [.int v1]) (rest := []) ct my_X8_isRegister rfl rfl k_X8_115 t_X8_isRegister dX8_swap_1 (by decide) (Nat.le_of_ble_eq_true rfl) (Nat.le_refl 0) (Nat.le_refl 0) rfl (fun r s1 h1 hq => ?_)
  obtain ⟨x1, rfl, rfl, hq⟩ := hq
  have K := K x1 h1 hq
  refine zw.st (st' := [.int x1]) rfl ?_
  refine zw_if_eq (tg := 23) dX8_swap_4 (by decide) rfl (fun c => ?_) (fun c => ?_)
  · have K := K.1 c
    refine zw_iconst (v := (-1 : Int32)) dX8_swap_23 (by decide) rfl ?_
    exact zw_ireturn (ty := .int) dX8_swap_24 rfl rfl (Nat.le_refl 0) (Nat.le_refl 0) ⟨_, rfl, rfl, K⟩
  · have K := K.2 c
    refine zw_aload_n 0 dX8_swap_7 rfl rfl rfl ?_
    refine zw_iload_n 2 dX8_swap_8 rfl rfl rfl ?_
    obtain ⟨q2, ct, K⟩ := K
    refine zw_callV (n := 1) (As := [.int v2]) (rest := []) ct my_X8_isElement rfl rfl k_X8_105 i_X8_isElement s_X8_isElement zs_56 rfl dX8_swap_9 (by decide) (Nat.le_of_ble_eq_true rfl) (Nat.le_refl 0) (Nat.le_refl 0) rfl (fun r s1 h2 hq => ?_)
    obtain ⟨x2, rfl, rfl, hq⟩ := hq
    have K := K x2 h2 hq
    refine zw.st (st' := [.int x2]) rfl ?_
    refine zw_if_eq (tg := 23) dX8_swap_12 (by decide) rfl (fun c => ?_) (fun c => ?_)
    · have K := K.1 c
      refine zw_iconst (v := (-1 : Int32)) dX8_swap_23 (by decide) rfl ?_
      exact zw_ireturn (ty := .int) dX8_swap_24 rfl rfl (Nat.le_refl 0) (Nat.le_refl 0) ⟨_, rfl, rfl, K⟩
    · have K := K.2 c
      refine zw_aload_n 0 dX8_swap_15 rfl rfl rfl ?_
      refine zw_iload_n 3 dX8_swap_16 rfl rfl rfl ?_
      obtain ⟨q3, ct, K⟩ := K
      refine zw_callV (n := 1) (As := [.int v3]) (rest := []) ct my_X8_isElement rfl rfl k_X8_105 i_X8_isElement s_X8_isElement zs_56 rfl dX8_swap_17 (by decide) (Nat.le_of_ble_eq_true rfl) (Nat.le_refl 0) (Nat.le_refl 0) rfl (fun r s1 h3 hq => ?_)
      obtain ⟨x3, rfl, rfl, hq⟩ := hq
      have K := K x3 h3 hq
      refine zw.st (st' := [.int x3]) rfl ?_
      refine zw_if_ne (tg := 25) dX8_swap_20 (by decide) rfl (fun c => ?_) (fun c => ?_)
      · have K := K.1 c
        refine zw_aload_n 0 dX8_swap_25 rfl rfl rfl ?_
        refine zw_iload_n 1 dX8_swap_26 rfl rfl rfl ?_
        obtain ⟨q4, ct, K⟩ := K
        refine zw_callV (n := 1) (As := [.int v1]) (rest := []) ct my_X8_held rfl rfl k_X8_128 i_X8_held s_X8_held zs_56 rfl dX8_swap_27 (by decide) (Nat.le_of_ble_eq_true rfl) (Nat.le_refl 0) (Nat.le_refl 0) rfl (fun r s1 h4 hq => ?_)
        obtain ⟨x4, rfl, rfl, hq⟩ := hq
        have K := K x4 h4 hq
        refine zw.st (st' := [.int x4]) rfl ?_
        refine zw_bipush (v := (-9 : Int32)) dX8_swap_30 (by decide) rfl ?_
        refine zw_icmp_ne (tg := 38) dX8_swap_32 (by decide) rfl (fun c => ?_) (fun c => ?_)
        · have K := K.1 c
          refine zw_aload_n 0 dX8_swap_38 rfl rfl rfl ?_
          refine zw_aload_n 0 dX8_swap_39 rfl rfl rfl ?_
          refine zw_iload_n 1 dX8_swap_40 rfl rfl rfl ?_
          obtain ⟨q5, ct, K⟩ := K
          refine zw_callV (n := 1) (As := [.int v1]) (rest := [.ref 56]) ct my_X8_held rfl rfl k_X8_128 i_X8_held s_X8_held zs_56 rfl dX8_swap_41 (by decide) (Nat.le_of_ble_eq_true rfl) (Nat.le_refl 0) (Nat.le_refl 0) rfl (fun r s1 h5 hq => ?_)
          obtain ⟨x5, rfl, rfl, hq⟩ := hq
          have K := K x5 h5 hq
          refine zw.st (st' := [.int x5, .ref 56]) rfl ?_
          obtain ⟨q6, ct, K⟩ := K
          refine zw_callV (n := 1) (As := [.int x5]) (rest := []) ct my_X8_takes rfl rfl k_X8_137 i_X8_takes s_X8_takes zs_56 rfl dX8_swap_44 (by decide) (Nat.le_of_ble_eq_true rfl) (Nat.le_refl 0) (Nat.le_refl 0) rfl (fun r s1 h6 hq => ?_)
          obtain ⟨rfl, rfl, hq⟩ := hq
          have K := K h6 hq
          refine zw.st (st' := []) rfl ?_
          refine zw_aload_n 0 dX8_swap_47 rfl rfl rfl ?_
          refine zw_getR f_X8_25 dX8_swap_48 zs_56 rfl rfl ?_
          refine zw_iload_n 2 dX8_swap_51 rfl rfl rfl ?_
          obtain ⟨j7, hj7, hn7, K⟩ := K
          refine zw_iald j7 dX8_swap_52 zs_62 ⟨hj7, hn7⟩ (by decide) rfl ?_
          refine zw_istore dX8_swap_53 (by decide) rfl rfl ?_
          refine zw_aload_n 1 dX8_swap_55 rfl rfl rfl ?_
          refine zw_getR f_X8_25 dX8_swap_56 zs_56 rfl rfl ?_
          refine zw_iload_n 3 dX8_swap_59 rfl rfl rfl ?_
          refine zw_aload_n 1 dX8_swap_60 rfl rfl rfl ?_
          refine zw_getR f_X8_25 dX8_swap_61 zs_56 rfl rfl ?_
          refine zw_iload_n 4 dX8_swap_64 rfl rfl rfl ?_
          obtain ⟨j8, hj8, hn8, K⟩ := K
          refine zw_iald j8 dX8_swap_65 zs_62 ⟨hj8, hn8⟩ (by decide) rfl ?_
          obtain ⟨j9, hj9, hn9, K⟩ := K
          refine zw_iast j9 dX8_swap_66 zs_62 ⟨hj9, hn9⟩ (by decide) rfl ?_
          generalize e10 : zw_sI h6 62 j9 (h6.1 62 j8) = h10
          have K := K h10 e10.symm
          refine zw_aload_n 1 dX8_swap_67 rfl rfl rfl ?_
          refine zw_getR f_X8_25 dX8_swap_68 zs_56 rfl rfl ?_
          refine zw_iload_n 4 dX8_swap_71 rfl rfl rfl ?_
          refine zw_iload 0 dX8_swap_72 rfl rfl ?_
          obtain ⟨j11, hj11, hn11, K⟩ := K
          refine zw_iast j11 dX8_swap_74 zs_62 ⟨hj11, hn11⟩ (by decide) rfl ?_
          generalize e12 : zw_sI h10 62 j11 (h6.1 62 j7) = h12
          have K := K h12 e12.symm
          refine zw_aload_n 1 dX8_swap_75 rfl rfl rfl ?_
          refine zw_iload_n 2 dX8_swap_76 rfl rfl rfl ?_
          refine zw_aload_n 1 dX8_swap_77 rfl rfl rfl ?_
          obtain ⟨q13, ct, K⟩ := K
          refine zw_callV (n := 0) (As := []) (rest := [.int v1, .ref 56]) ct my_X8_numberOf rfl rfl k_X8_122 i_X8_numberOf s_X8_numberOf zs_56 rfl dX8_swap_78 (by decide) (Nat.le_of_ble_eq_true rfl) (Nat.le_refl 0) (Nat.le_refl 0) rfl (fun r s1 h13 hq => ?_)
          obtain ⟨x13, rfl, rfl, hq⟩ := hq
          have K := K x13 h13 hq
          refine zw.st (st' := [.int x13, .int v1, .ref 56]) rfl ?_
          obtain ⟨q14, ct, K⟩ := K
          refine zw_callV (n := 2) (As := [.int v1, .int x13]) (rest := []) ct my_X8_changes rfl rfl k_X8_144 i_X8_changes s_X8_changes zs_56 rfl dX8_swap_81 (by decide) (Nat.le_of_ble_eq_true rfl) (Nat.le_refl 0) (Nat.le_refl 0) rfl (fun r s1 h14 hq => ?_)
          obtain ⟨x14, rfl, rfl, hq⟩ := hq
          have K := K x14 h14 hq
          refine zw.st (st' := [.int x14]) rfl ?_
          exact zw_ireturn (ty := .int) dX8_swap_84 rfl rfl (Nat.le_refl 0) (Nat.le_refl 0) ⟨_, rfl, rfl, K⟩
        · have K := K.2 c
          refine zw_bipush (v := (-2 : Int32)) dX8_swap_35 (by decide) rfl ?_
          exact zw_ireturn (ty := .int) dX8_swap_37 rfl rfl (Nat.le_refl 0) (Nat.le_refl 0) ⟨_, rfl, rfl, K⟩
      · have K := K.2 c
        refine zw_iconst (v := (-1 : Int32)) dX8_swap_23 (by decide) rfl ?_
        exact zw_ireturn (ty := .int) dX8_swap_24 rfl rfl (Nat.le_refl 0) (Nat.le_refl 0) ⟨_, rfl, rfl, K⟩

set_option maxRecDepth 100000 in
set_option maxHeartbeats 4000000 in
theorem rX8_rotate_0 {q : Int32 → zw_H → Prop} {h : zw_H} {v1 : Int32} (K : (∃ q1 : Int32 → zw_H → Prop, zcI 2 mX8_wrong [.ref 56, .int v1] h q1 ∧ (∀ (x1 : Int32) (h1 : zw_H), q1 x1 h1 → ((x1 = 0 → zwI 3 mX8_rotate q 22 [(0, .ref 56), (1, .int v1), (3, .int (h1.1 57 0)), (4, .int (0 : Int32))] [] h1) ∧ (¬ x1 = 0 → q x1 h1))))) : zwI 3 mX8_rotate q 0 [(0, .ref 56), (1, .int v1)] [] h := by
  refine zw_aload_n 0 dX8_rotate_0 rfl rfl rfl ?_
  refine zw_iload_n 1 dX8_rotate_1 rfl rfl rfl ?_
  obtain ⟨q1, ct, K⟩ := K
  refine zw_callV (n := 1) (As := [.int v1]) (rest := []) ct my_X8_wrong rfl rfl k_X8_131 i_X8_wrong s_X8_wrong zs_56 rfl dX8_rotate_2 (by decide) (Nat.le_of_ble_eq_true rfl) (Nat.le_refl 0) (Nat.le_refl 0) rfl (fun r s1 h1 hq => ?_)
  obtain ⟨x1, rfl, rfl, hq⟩ := hq
  have K := K x1 h1 hq
  refine zw.st (st' := [.int x1]) rfl ?_
  refine zw_istore_n dX8_rotate_5 rfl (by decide) rfl rfl ?_
  refine zw_iload_n 0 dX8_rotate_6 rfl rfl rfl ?_
  refine zw_if_eq (tg := 12) dX8_rotate_7 (by decide) rfl (fun c => ?_) (fun c => ?_)
  · have K := K.1 c
    refine zw_aload_n 1 dX8_rotate_12 rfl rfl rfl ?_
    refine zw_getR f_X8_7 dX8_rotate_13 zs_56 rfl rfl ?_
    refine zw_iconst (v := (0 : Int32)) dX8_rotate_16 (by decide) rfl ?_
    refine zw_iald 0 dX8_rotate_17 zs_57 ⟨by decide, by decide⟩ (by decide) rfl ?_
    refine zw_istore_n dX8_rotate_18 rfl (by decide) rfl rfl ?_
    refine zw_iconst (v := (0 : Int32)) dX8_rotate_19 (by decide) rfl ?_
    refine zw_istore dX8_rotate_20 (by decide) rfl rfl ?_
    exact zw.sub [3, 4, 1, 0] rfl K
  · have K := K.2 c
    refine zw_iload_n 0 dX8_rotate_10 rfl rfl rfl ?_
    exact zw_ireturn (ty := .int) dX8_rotate_11 rfl rfl (Nat.le_refl 0) (Nat.le_refl 0) ⟨_, rfl, rfl, K⟩

set_option maxRecDepth 100000 in
set_option maxHeartbeats 4000000 in
theorem rX8_rotate_22 {q : Int32 → zw_H → Prop} {h : zw_H} {v1 v3 v4 : Int32} (K : ((v3 ≤ v4 → (∃ q1 : Int32 → zw_H → Prop, zcI 1 mX8_numberOf [.ref 56] h q1 ∧ (∀ (x1 : Int32) (h1 : zw_H), q1 x1 h1 → (∃ q2 : Int32 → zw_H → Prop, zcI 2 mX8_changes [.ref 56, .int v1, .int x1] h1 q2 ∧ (∀ (x2 : Int32) (h2 : zw_H), q2 x2 h2 → q x2 h2))))) ∧ (¬ v3 ≤ v4 → (∃ q3 : Int32 → zw_H → Prop, zcI 0 mX8_held [.ref 56, .int v1] h q3 ∧ (∀ (x3 : Int32) (h3 : zw_H), q3 x3 h3 → (¬ v3 = 0 ∧ (∃ q4 : Int32 → zw_H → Prop, zcI 0 mX8_at [.ref 56, .int x3, .int (((v4 + v3) - (1 : Int32)) - ((v4 + v3) - (1 : Int32)) / v3 * v3)] h3 q4 ∧ (∀ (x4 : Int32) (h4 : zw_H), q4 x4 h4 → (∃ j5 : Nat, v4 = nI j5 ∧ j5 < 6 ∧ ∀ h6 : zw_H, h6 = zw_sI h4 62 j5 x4 → zwI 3 mX8_rotate q 22 [(0, .ref 56), (1, .int v1), (3, .int v3), (4, .int (v4 + (1 : Int32)))] [] h6))))))))) : zwI 3 mX8_rotate q 22 [(0, .ref 56), (1, .int v1), (3, .int v3), (4, .int v4)] [] h := by
  refine zw_iload 3 dX8_rotate_22 rfl rfl ?_
  refine zw_iload_n 2 dX8_rotate_24 rfl rfl rfl ?_
  refine zw_icmp_ge (tg := 58) dX8_rotate_25 (by decide) rfl (fun c => ?_) (fun c => ?_)
  · have K := K.1 c
    refine zw_aload_n 0 dX8_rotate_58 rfl rfl rfl ?_
    refine zw_iload_n 1 dX8_rotate_59 rfl rfl rfl ?_
    refine zw_aload_n 0 dX8_rotate_60 rfl rfl rfl ?_
    obtain ⟨q1, ct, K⟩ := K
    refine zw_callV (n := 0) (As := []) (rest := [.int v1, .ref 56]) ct my_X8_numberOf rfl rfl k_X8_122 i_X8_numberOf s_X8_numberOf zs_56 rfl dX8_rotate_61 (by decide) (Nat.le_of_ble_eq_true rfl) (Nat.le_refl 0) (Nat.le_refl 0) rfl (fun r s1 h1 hq => ?_)
    obtain ⟨x1, rfl, rfl, hq⟩ := hq
    have K := K x1 h1 hq
    refine zw.st (st' := [.int x1, .int v1, .ref 56]) rfl ?_
    obtain ⟨q2, ct, K⟩ := K
    refine zw_callV (n := 2) (As := [.int v1, .int x1]) (rest := []) ct my_X8_changes rfl rfl k_X8_144 i_X8_changes s_X8_changes zs_56 rfl dX8_rotate_64 (by decide) (Nat.le_of_ble_eq_true rfl) (Nat.le_refl 0) (Nat.le_refl 0) rfl (fun r s1 h2 hq => ?_)
    obtain ⟨x2, rfl, rfl, hq⟩ := hq
    have K := K x2 h2 hq
    refine zw.st (st' := [.int x2]) rfl ?_
    exact zw_ireturn (ty := .int) dX8_rotate_67 rfl rfl (Nat.le_refl 0) (Nat.le_refl 0) ⟨_, rfl, rfl, K⟩
  · have K := K.2 c
    refine zw_aload_n 0 dX8_rotate_28 rfl rfl rfl ?_
    refine zw_getR f_X8_25 dX8_rotate_29 zs_56 rfl rfl ?_
    refine zw_iload 3 dX8_rotate_32 rfl rfl ?_
    refine zw_aload_n 0 dX8_rotate_34 rfl rfl rfl ?_
    refine zw_aload_n 0 dX8_rotate_35 rfl rfl rfl ?_
    refine zw_iload_n 1 dX8_rotate_36 rfl rfl rfl ?_
    obtain ⟨q3, ct, K⟩ := K
    refine zw_callV (n := 1) (As := [.int v1]) (rest := [.ref 56, .int v4, .ref 62]) ct my_X8_held rfl rfl k_X8_128 i_X8_held s_X8_held zs_56 rfl dX8_rotate_37 (by decide) (Nat.le_of_ble_eq_true rfl) (Nat.le_refl 0) (Nat.le_refl 0) rfl (fun r s1 h3 hq => ?_)
    obtain ⟨x3, rfl, rfl, hq⟩ := hq
    have K := K x3 h3 hq
    refine zw.st (st' := [.int x3, .ref 56, .int v4, .ref 62]) rfl ?_
    refine zw_iload 3 dX8_rotate_40 rfl rfl ?_
    refine zw_iload_n 2 dX8_rotate_42 rfl rfl rfl ?_
    refine zw_iadd dX8_rotate_43 rfl ?_
    refine zw_iconst (v := (1 : Int32)) dX8_rotate_44 (by decide) rfl ?_
    refine zw_isub dX8_rotate_45 rfl ?_
    refine zw_iload_n 2 dX8_rotate_46 rfl rfl rfl ?_
    obtain ⟨hz, K⟩ := K
    refine zw_irem dX8_rotate_47 hz rfl ?_
    obtain ⟨q4, ct, K⟩ := K
    refine zw_callV (n := 2) (As := [.int x3, .int (((v4 + v3) - (1 : Int32)) - ((v4 + v3) - (1 : Int32)) / v3 * v3)]) (rest := [.int v4, .ref 62]) ct my_X8_at rfl rfl k_X8_65 i_X8_at s_X8_at zs_56 rfl dX8_rotate_48 (by decide) (Nat.le_of_ble_eq_true rfl) (Nat.le_refl 0) (Nat.le_refl 0) rfl (fun r s1 h4 hq => ?_)
    obtain ⟨x4, rfl, rfl, hq⟩ := hq
    have K := K x4 h4 hq
    refine zw.st (st' := [.int x4, .int v4, .ref 62]) rfl ?_
    obtain ⟨j5, hj5, hn5, K⟩ := K
    refine zw_iast j5 dX8_rotate_51 zs_62 ⟨hj5, hn5⟩ (by decide) rfl ?_
    generalize e6 : zw_sI h4 62 j5 x4 = h6
    have K := K h6 e6.symm
    refine zw_iinc (v := (v4 + (1 : Int32))) 3 dX8_rotate_52 rfl rfl (by decide) rfl rfl ?_
    refine zw_goto (np := 22) dX8_rotate_55 (by decide) ?_
    exact zw.sub [1, 2, 3, 0] rfl K

set_option maxRecDepth 100000 in
set_option maxHeartbeats 4000000 in
theorem rX8_isParted_0 {q : Int32 → zw_H → Prop} {h : zw_H} {v1 v2 v3 : Int32} (K : zwI 1 mX8_isParted q 5 [(0, .ref 56), (1, .int v1), (2, .int v2), (3, .int v3), (4, .int (v2 + (1 : Int32)))] [] h) : zwI 1 mX8_isParted q 0 [(0, .ref 56), (1, .int v1), (2, .int v2), (3, .int v3)] [] h := by
  refine zw_iload_n 2 dX8_isParted_0 rfl rfl rfl ?_
  refine zw_iconst (v := (1 : Int32)) dX8_isParted_1 (by decide) rfl ?_
  refine zw_iadd dX8_isParted_2 rfl ?_
  refine zw_istore dX8_isParted_3 (by decide) rfl rfl ?_
  exact zw.sub [1, 2, 3, 4, 0] rfl K

set_option maxRecDepth 100000 in
set_option maxHeartbeats 4000000 in
theorem rX8_isParted_5 {q : Int32 → zw_H → Prop} {h : zw_H} {v1 v2 v3 v4 : Int32} (K : ((v3 < v4 → q (1 : Int32) h) ∧ (¬ v3 < v4 → zwI 1 mX8_isParted q 14 [(0, .ref 56), (1, .int v1), (2, .int v2), (3, .int v3), (4, .int v4), (5, .int (0 : Int32))] [] h))) : zwI 1 mX8_isParted q 5 [(0, .ref 56), (1, .int v1), (2, .int v2), (3, .int v3), (4, .int v4)] [] h := by
  refine zw_iload 4 dX8_isParted_5 rfl rfl ?_
  refine zw_iload_n 3 dX8_isParted_7 rfl rfl rfl ?_
  refine zw_icmp_gt (tg := 68) dX8_isParted_8 (by decide) rfl (fun c => ?_) (fun c => ?_)
  · have K := K.1 c
    refine zw_iconst (v := (1 : Int32)) dX8_isParted_68 (by decide) rfl ?_
    exact zw_ireturn (ty := .boolean) dX8_isParted_69 rfl rfl (Nat.le_refl 0) (Nat.le_refl 0) ⟨_, rfl, rfl, K⟩
  · have K := K.2 c
    refine zw_iconst (v := (0 : Int32)) dX8_isParted_11 (by decide) rfl ?_
    refine zw_istore dX8_isParted_12 (by decide) rfl rfl ?_
    exact zw.sub [1, 2, 3, 4, 5, 0] rfl K

set_option maxRecDepth 100000 in
set_option maxHeartbeats 4000000 in
theorem rX8_isParted_14 {q : Int32 → zw_H → Prop} {h : zw_H} {v1 v2 v3 v4 v5 : Int32} (K : (((h.1 57 0) ≤ v5 → zwI 1 mX8_isParted q 5 [(0, .ref 56), (1, .int v1), (2, .int v2), (3, .int v3), (4, .int (v4 + (1 : Int32)))] [] h) ∧ (¬ (h.1 57 0) ≤ v5 → (∃ q1 : Int32 → zw_H → Prop, zcI 0 mX8_at [.ref 56, .int v1, .int v4] h q1 ∧ (∀ (x1 : Int32) (h1 : zw_H), q1 x1 h1 → (∃ q2 : Int32 → zw_H → Prop, zcI 0 mX8_at [.ref 56, .int v1, .int v5] h1 q2 ∧ (∀ (x2 : Int32) (h2 : zw_H), q2 x2 h2 → ((¬ x1 = x2 → zwI 1 mX8_isParted q 14 [(0, .ref 56), (1, .int v1), (2, .int v2), (3, .int v3), (4, .int v4), (5, .int (v5 + (1 : Int32)))] [] h2) ∧ (x1 = x2 → (∃ q3 : Int32 → zw_H → Prop, zcI 0 mX8_in [.int v5, .int (v2 + (1 : Int32)), .int v3] h2 q3 ∧ (∀ (x3 : Int32) (h3 : zw_H), q3 x3 h3 → ((¬ x3 = 0 → zwI 1 mX8_isParted q 14 [(0, .ref 56), (1, .int v1), (2, .int v2), (3, .int v3), (4, .int v4), (5, .int (v5 + (1 : Int32)))] [] h3) ∧ (x3 = 0 → q (0 : Int32) h3))))))))))))) : zwI 1 mX8_isParted q 14 [(0, .ref 56), (1, .int v1), (2, .int v2), (3, .int v3), (4, .int v4), (5, .int v5)] [] h := by
  refine zw_iload 5 dX8_isParted_14 rfl rfl ?_
  refine zw_aload_n 0 dX8_isParted_16 rfl rfl rfl ?_
  refine zw_getR f_X8_7 dX8_isParted_17 zs_56 rfl rfl ?_
  refine zw_iconst (v := (0 : Int32)) dX8_isParted_20 (by decide) rfl ?_
  refine zw_iald 0 dX8_isParted_21 zs_57 ⟨by decide, by decide⟩ (by decide) rfl ?_
  refine zw_icmp_ge (tg := 62) dX8_isParted_22 (by decide) rfl (fun c => ?_) (fun c => ?_)
  · have K := K.1 c
    refine zw_iinc (v := (v4 + (1 : Int32))) 4 dX8_isParted_62 rfl rfl (by decide) rfl rfl ?_
    refine zw_goto (np := 5) dX8_isParted_65 (by decide) ?_
    exact zw.sub [1, 2, 3, 4, 0] rfl K
  · have K := K.2 c
    refine zw_aload_n 0 dX8_isParted_25 rfl rfl rfl ?_
    refine zw_iload_n 1 dX8_isParted_26 rfl rfl rfl ?_
    refine zw_iload 4 dX8_isParted_27 rfl rfl ?_
    obtain ⟨q1, ct, K⟩ := K
    refine zw_callV (n := 2) (As := [.int v1, .int v4]) (rest := []) ct my_X8_at rfl rfl k_X8_65 i_X8_at s_X8_at zs_56 rfl dX8_isParted_29 (by decide) (Nat.le_of_ble_eq_true rfl) (Nat.le_refl 0) (Nat.le_refl 0) rfl (fun r s1 h1 hq => ?_)
    obtain ⟨x1, rfl, rfl, hq⟩ := hq
    have K := K x1 h1 hq
    refine zw.st (st' := [.int x1]) rfl ?_
    refine zw_aload_n 0 dX8_isParted_32 rfl rfl rfl ?_
    refine zw_iload_n 1 dX8_isParted_33 rfl rfl rfl ?_
    refine zw_iload 5 dX8_isParted_34 rfl rfl ?_
    obtain ⟨q2, ct, K⟩ := K
    refine zw_callV (n := 2) (As := [.int v1, .int v5]) (rest := [.int x1]) ct my_X8_at rfl rfl k_X8_65 i_X8_at s_X8_at zs_56 rfl dX8_isParted_36 (by decide) (Nat.le_of_ble_eq_true rfl) (Nat.le_refl 0) (Nat.le_refl 0) rfl (fun r s1 h2 hq => ?_)
    obtain ⟨x2, rfl, rfl, hq⟩ := hq
    have K := K x2 h2 hq
    refine zw.st (st' := [.int x2, .int x1]) rfl ?_
    refine zw_icmp_ne (tg := 56) dX8_isParted_39 (by decide) rfl (fun c => ?_) (fun c => ?_)
    · have K := K.1 c
      refine zw_iinc (v := (v5 + (1 : Int32))) 5 dX8_isParted_56 rfl rfl (by decide) rfl rfl ?_
      refine zw_goto (np := 14) dX8_isParted_59 (by decide) ?_
      exact zw.sub [1, 2, 3, 4, 5, 0] rfl K
    · have K := K.2 c
      refine zw_iload 5 dX8_isParted_42 rfl rfl ?_
      refine zw_iload_n 2 dX8_isParted_44 rfl rfl rfl ?_
      refine zw_iconst (v := (1 : Int32)) dX8_isParted_45 (by decide) rfl ?_
      refine zw_iadd dX8_isParted_46 rfl ?_
      refine zw_iload_n 3 dX8_isParted_47 rfl rfl rfl ?_
      obtain ⟨q3, ct, K⟩ := K
      refine zw_callS (n := 3) (As := [.int v5, .int (v2 + (1 : Int32)), .int v3]) (rest := []) ct my_X8_in rfl rfl k_X8_96 t_X8_in dX8_isParted_48 (by decide) (Nat.le_of_ble_eq_true rfl) (Nat.le_refl 0) (Nat.le_refl 0) rfl (fun r s1 h3 hq => ?_)
      obtain ⟨x3, rfl, rfl, hq⟩ := hq
      have K := K x3 h3 hq
      refine zw.st (st' := [.int x3]) rfl ?_
      refine zw_if_ne (tg := 56) dX8_isParted_51 (by decide) rfl (fun c => ?_) (fun c => ?_)
      · have K := K.1 c
        refine zw_iinc (v := (v5 + (1 : Int32))) 5 dX8_isParted_56 rfl rfl (by decide) rfl rfl ?_
        refine zw_goto (np := 14) dX8_isParted_59 (by decide) ?_
        exact zw.sub [1, 2, 3, 4, 5, 0] rfl K
      · have K := K.2 c
        refine zw_iconst (v := (0 : Int32)) dX8_isParted_54 (by decide) rfl ?_
        exact zw_ireturn (ty := .boolean) dX8_isParted_55 rfl rfl (Nat.le_refl 0) (Nat.le_refl 0) ⟨_, rfl, rfl, K⟩

set_option maxRecDepth 100000 in
set_option maxHeartbeats 4000000 in
theorem rX8_complement_0 {q : Int32 → zw_H → Prop} {h : zw_H} {v1 v2 : Int32} (K : (∃ q1 : Int32 → zw_H → Prop, zcI 1 mX8_isRegister [.int v2] h q1 ∧ (∀ (x1 : Int32) (h1 : zw_H), q1 x1 h1 → ((¬ x1 = 0 → (∃ q2 : Int32 → zw_H → Prop, zcI 2 mX8_wrong [.ref 56, .int v1] h1 q2 ∧ (∀ (x2 : Int32) (h2 : zw_H), q2 x2 h2 → ((x2 = 0 → (∃ q3 : Int32 → zw_H → Prop, zcI 0 mX8_held [.ref 56, .int v1] h2 q3 ∧ (∀ (x3 : Int32) (h3 : zw_H), q3 x3 h3 → (∃ q4 : Int32 → zw_H → Prop, zcI 2 mX8_firstCrossing [.ref 56, .int x3] h3 q4 ∧ (∀ (x4 : Int32) (h4 : zw_H), q4 x4 h4 → ((x4 = (-9 : Int32) → zwI 3 mX8_complement q 45 [(0, .ref 56), (2, .int v2), (4, .int x3), (5, .int (0 : Int32))] [] h4) ∧ (¬ x4 = (-9 : Int32) → q (-3 : Int32) h4))))))) ∧ (¬ x2 = 0 → q x2 h2))))) ∧ (x1 = 0 → q (-1 : Int32) h1))))) : zwI 3 mX8_complement q 0 [(0, .ref 56), (1, .int v1), (2, .int v2)] [] h := by
  refine zw_iload_n 2 dX8_complement_0 rfl rfl rfl ?_
  obtain ⟨q1, ct, K⟩ := K
  refine zw_callS (n := 1) (As := [.int v2]) (rest := []) ct my_X8_isRegister rfl rfl k_X8_115 t_X8_isRegister dX8_complement_1 (by decide) (Nat.le_of_ble_eq_true rfl) (Nat.le_refl 0) (Nat.le_refl 0) rfl (fun r s1 h1 hq => ?_)
  obtain ⟨x1, rfl, rfl, hq⟩ := hq
  have K := K x1 h1 hq
  refine zw.st (st' := [.int x1]) rfl ?_
  refine zw_if_ne (tg := 9) dX8_complement_4 (by decide) rfl (fun c => ?_) (fun c => ?_)
  · have K := K.1 c
    refine zw_aload_n 0 dX8_complement_9 rfl rfl rfl ?_
    refine zw_iload_n 1 dX8_complement_10 rfl rfl rfl ?_
    obtain ⟨q2, ct, K⟩ := K
    refine zw_callV (n := 1) (As := [.int v1]) (rest := []) ct my_X8_wrong rfl rfl k_X8_131 i_X8_wrong s_X8_wrong zs_56 rfl dX8_complement_11 (by decide) (Nat.le_of_ble_eq_true rfl) (Nat.le_refl 0) (Nat.le_refl 0) rfl (fun r s1 h2 hq => ?_)
    obtain ⟨x2, rfl, rfl, hq⟩ := hq
    have K := K x2 h2 hq
    refine zw.st (st' := [.int x2]) rfl ?_
    refine zw_istore_n dX8_complement_14 rfl (by decide) rfl rfl ?_
    refine zw_iload_n 0 dX8_complement_15 rfl rfl rfl ?_
    refine zw_if_eq (tg := 21) dX8_complement_16 (by decide) rfl (fun c => ?_) (fun c => ?_)
    · have K := K.1 c
      refine zw_aload_n 1 dX8_complement_21 rfl rfl rfl ?_
      refine zw_iload_n 2 dX8_complement_22 rfl rfl rfl ?_
      obtain ⟨q3, ct, K⟩ := K
      refine zw_callV (n := 1) (As := [.int v1]) (rest := []) ct my_X8_held rfl rfl k_X8_128 i_X8_held s_X8_held zs_56 rfl dX8_complement_23 (by decide) (Nat.le_of_ble_eq_true rfl) (Nat.le_refl 0) (Nat.le_refl 0) rfl (fun r s1 h3 hq => ?_)
      obtain ⟨x3, rfl, rfl, hq⟩ := hq
      have K := K x3 h3 hq
      refine zw.st (st' := [.int x3]) rfl ?_
      refine zw_istore dX8_complement_26 (by decide) rfl rfl ?_
      refine zw_aload_n 2 dX8_complement_28 rfl rfl rfl ?_
      refine zw_iload 0 dX8_complement_29 rfl rfl ?_
      obtain ⟨q4, ct, K⟩ := K
      refine zw_callV (n := 1) (As := [.int x3]) (rest := []) ct my_X8_firstCrossing rfl rfl k_X8_86 i_X8_firstCrossing s_X8_firstCrossing zs_56 rfl dX8_complement_31 (by decide) (Nat.le_of_ble_eq_true rfl) (Nat.le_refl 0) (Nat.le_refl 0) rfl (fun r s1 h4 hq => ?_)
      obtain ⟨x4, rfl, rfl, hq⟩ := hq
      have K := K x4 h4 hq
      refine zw.st (st' := [.int x4]) rfl ?_
      refine zw_bipush (v := (-9 : Int32)) dX8_complement_34 (by decide) rfl ?_
      refine zw_icmp_eq (tg := 42) dX8_complement_36 (by decide) rfl (fun c => ?_) (fun c => ?_)
      · have K := K.1 c
        refine zw_iconst (v := (0 : Int32)) dX8_complement_42 (by decide) rfl ?_
        refine zw_istore dX8_complement_43 (by decide) rfl rfl ?_
        exact zw.sub [3, 5, 1, 0] rfl K
      · have K := K.2 c
        refine zw_bipush (v := (-3 : Int32)) dX8_complement_39 (by decide) rfl ?_
        exact zw_ireturn (ty := .int) dX8_complement_41 rfl rfl (Nat.le_refl 0) (Nat.le_refl 0) ⟨_, rfl, rfl, K⟩
    · have K := K.2 c
      refine zw_iload_n 0 dX8_complement_19 rfl rfl rfl ?_
      exact zw_ireturn (ty := .int) dX8_complement_20 rfl rfl (Nat.le_refl 0) (Nat.le_refl 0) ⟨_, rfl, rfl, K⟩
  · have K := K.2 c
    refine zw_iconst (v := (-1 : Int32)) dX8_complement_7 (by decide) rfl ?_
    exact zw_ireturn (ty := .int) dX8_complement_8 rfl rfl (Nat.le_refl 0) (Nat.le_refl 0) ⟨_, rfl, rfl, K⟩

set_option maxRecDepth 100000 in
set_option maxHeartbeats 4000000 in
theorem rX8_complement_45 {q : Int32 → zw_H → Prop} {h : zw_H} {v2 v4 v5 : Int32} (K : (((h.1 57 0) ≤ v5 → (∃ q1 : Int32 → zw_H → Prop, zcI 1 mX8_numberOf [.ref 56] h q1 ∧ (∀ (x1 : Int32) (h1 : zw_H), q1 x1 h1 → (∃ q2 : Int32 → zw_H → Prop, zcI 1 mX8_puts [.ref 56, .int v2, .int x1] h1 q2 ∧ (∀ (x2 : Int32) (h2 : zw_H), q2 x2 h2 → q x2 h2))))) ∧ (¬ (h.1 57 0) ≤ v5 → zwI 3 mX8_complement q 59 [(0, .ref 56), (2, .int v2), (4, .int v4), (5, .int v5), (6, .int (0 : Int32))] [] h))) : zwI 3 mX8_complement q 45 [(0, .ref 56), (2, .int v2), (4, .int v4), (5, .int v5)] [] h := by
  refine zw_iload 3 dX8_complement_45 rfl rfl ?_
  refine zw_aload_n 0 dX8_complement_47 rfl rfl rfl ?_
  refine zw_getR f_X8_7 dX8_complement_48 zs_56 rfl rfl ?_
  refine zw_iconst (v := (0 : Int32)) dX8_complement_51 (by decide) rfl ?_
  refine zw_iald 0 dX8_complement_52 zs_57 ⟨by decide, by decide⟩ (by decide) rfl ?_
  refine zw_icmp_ge (tg := 100) dX8_complement_53 (by decide) rfl (fun c => ?_) (fun c => ?_)
  · have K := K.1 c
    refine zw_aload_n 0 dX8_complement_100 rfl rfl rfl ?_
    refine zw_iload_n 1 dX8_complement_101 rfl rfl rfl ?_
    refine zw_aload_n 0 dX8_complement_102 rfl rfl rfl ?_
    obtain ⟨q1, ct, K⟩ := K
    refine zw_callV (n := 0) (As := []) (rest := [.int v2, .ref 56]) ct my_X8_numberOf rfl rfl k_X8_122 i_X8_numberOf s_X8_numberOf zs_56 rfl dX8_complement_103 (by decide) (Nat.le_of_ble_eq_true rfl) (Nat.le_refl 0) (Nat.le_refl 0) rfl (fun r s1 h1 hq => ?_)
    obtain ⟨x1, rfl, rfl, hq⟩ := hq
    have K := K x1 h1 hq
    refine zw.st (st' := [.int x1, .int v2, .ref 56]) rfl ?_
    obtain ⟨q2, ct, K⟩ := K
    refine zw_callV (n := 2) (As := [.int v2, .int x1]) (rest := []) ct my_X8_puts rfl rfl k_X8_125 i_X8_puts s_X8_puts zs_56 rfl dX8_complement_106 (by decide) (Nat.le_of_ble_eq_true rfl) (Nat.le_refl 0) (Nat.le_refl 0) rfl (fun r s1 h2 hq => ?_)
    obtain ⟨x2, rfl, rfl, hq⟩ := hq
    have K := K x2 h2 hq
    refine zw.st (st' := [.int x2]) rfl ?_
    exact zw_ireturn (ty := .int) dX8_complement_109 rfl rfl (Nat.le_refl 0) (Nat.le_refl 0) ⟨_, rfl, rfl, K⟩
  · have K := K.2 c
    refine zw_iconst (v := (0 : Int32)) dX8_complement_56 (by decide) rfl ?_
    refine zw_istore dX8_complement_57 (by decide) rfl rfl ?_
    exact zw.sub [1, 2, 3, 4, 0] rfl K

set_option maxRecDepth 100000 in
set_option maxHeartbeats 4000000 in
theorem rX8_complement_59 {q : Int32 → zw_H → Prop} {h : zw_H} {v2 v4 v5 v6 : Int32} (K : ((v5 ≤ v6 → (∃ j1 : Nat, v5 = nI j1 ∧ j1 < 6 ∧ ∀ h2 : zw_H, h2 = zw_sI h 62 j1 v6 → zwI 3 mX8_complement q 45 [(0, .ref 56), (2, .int v2), (4, .int v4), (5, .int (v5 + (1 : Int32)))] [] h2)) ∧ (¬ v5 ≤ v6 → (∃ q3 : Int32 → zw_H → Prop, zcI 1 mX8_isParted [.ref 56, .int v4, .int v6, .int v5] h q3 ∧ (∀ (x3 : Int32) (h3 : zw_H), q3 x3 h3 → ((¬ x3 = 0 → (∃ j4 : Nat, v5 = nI j4 ∧ j4 < 6 ∧ ∀ h5 : zw_H, h5 = zw_sI h3 62 j4 v6 → zwI 3 mX8_complement q 45 [(0, .ref 56), (2, .int v2), (4, .int v4), (5, .int (v5 + (1 : Int32)))] [] h5)) ∧ (x3 = 0 → zwI 3 mX8_complement q 59 [(0, .ref 56), (2, .int v2), (4, .int v4), (5, .int v5), (6, .int (v6 + (1 : Int32)))] [] h3))))))) : zwI 3 mX8_complement q 59 [(0, .ref 56), (2, .int v2), (4, .int v4), (5, .int v5), (6, .int v6)] [] h := by
  refine zw_iload 4 dX8_complement_59 rfl rfl ?_
  refine zw_iload 3 dX8_complement_61 rfl rfl ?_
  refine zw_icmp_ge (tg := 85) dX8_complement_63 (by decide) rfl (fun c => ?_) (fun c => ?_)
  · have K := K.1 c
    refine zw_aload_n 0 dX8_complement_85 rfl rfl rfl ?_
    refine zw_getR f_X8_25 dX8_complement_86 zs_56 rfl rfl ?_
    refine zw_iload 3 dX8_complement_89 rfl rfl ?_
    refine zw_iload 4 dX8_complement_91 rfl rfl ?_
    obtain ⟨j1, hj1, hn1, K⟩ := K
    refine zw_iast j1 dX8_complement_93 zs_62 ⟨hj1, hn1⟩ (by decide) rfl ?_
    generalize e2 : zw_sI h 62 j1 v6 = h2
    have K := K h2 e2.symm
    refine zw_iinc (v := (v5 + (1 : Int32))) 3 dX8_complement_94 rfl rfl (by decide) rfl rfl ?_
    refine zw_goto (np := 45) dX8_complement_97 (by decide) ?_
    exact zw.sub [1, 2, 3, 0] rfl K
  · have K := K.2 c
    refine zw_aload_n 0 dX8_complement_66 rfl rfl rfl ?_
    refine zw_iload 2 dX8_complement_67 rfl rfl ?_
    refine zw_iload 4 dX8_complement_69 rfl rfl ?_
    refine zw_iload 3 dX8_complement_71 rfl rfl ?_
    obtain ⟨q3, ct, K⟩ := K
    refine zw_callV (n := 3) (As := [.int v4, .int v6, .int v5]) (rest := []) ct my_X8_isParted rfl rfl k_X8_147 i_X8_isParted s_X8_isParted zs_56 rfl dX8_complement_73 (by decide) (Nat.le_of_ble_eq_true rfl) (Nat.le_refl 0) (Nat.le_refl 0) rfl (fun r s1 h3 hq => ?_)
    obtain ⟨x3, rfl, rfl, hq⟩ := hq
    have K := K x3 h3 hq
    refine zw.st (st' := [.int x3]) rfl ?_
    refine zw_if_ne (tg := 85) dX8_complement_76 (by decide) rfl (fun c => ?_) (fun c => ?_)
    · have K := K.1 c
      refine zw_aload_n 0 dX8_complement_85 rfl rfl rfl ?_
      refine zw_getR f_X8_25 dX8_complement_86 zs_56 rfl rfl ?_
      refine zw_iload 3 dX8_complement_89 rfl rfl ?_
      refine zw_iload 4 dX8_complement_91 rfl rfl ?_
      obtain ⟨j4, hj4, hn4, K⟩ := K
      refine zw_iast j4 dX8_complement_93 zs_62 ⟨hj4, hn4⟩ (by decide) rfl ?_
      generalize e5 : zw_sI h3 62 j4 v6 = h5
      have K := K h5 e5.symm
      refine zw_iinc (v := (v5 + (1 : Int32))) 3 dX8_complement_94 rfl rfl (by decide) rfl rfl ?_
      refine zw_goto (np := 45) dX8_complement_97 (by decide) ?_
      exact zw.sub [1, 2, 3, 0] rfl K
    · have K := K.2 c
      refine zw_iinc (v := (v6 + (1 : Int32))) 4 dX8_complement_79 rfl rfl (by decide) rfl rfl ?_
      refine zw_goto (np := 59) dX8_complement_82 (by decide) ?_
      exact zw.sub [1, 2, 3, 4, 0] rfl K

set_option maxRecDepth 100000 in
set_option maxHeartbeats 4000000 in
theorem rX8_admittedAt_0 {q : Int32 → zw_H → Prop} {h : zw_H} {v1 : Int32} (K : zwI 1 mX8_admittedAt q 2 [(0, .ref 56), (1, .int v1), (2, .int (0 : Int32))] [] h) : zwI 1 mX8_admittedAt q 0 [(0, .ref 56), (1, .int v1)] [] h := by
  refine zw_iconst (v := (0 : Int32)) dX8_admittedAt_0 (by decide) rfl ?_
  refine zw_istore_n dX8_admittedAt_1 rfl (by decide) rfl rfl ?_
  exact zw.sub [1, 2, 0] rfl K

set_option maxRecDepth 100000 in
set_option maxHeartbeats 4000000 in
theorem rX8_admittedAt_2 {q : Int32 → zw_H → Prop} {h : zw_H} {v1 v2 : Int32} (K : (((h.1 56 7) ≤ v2 → q (-9 : Int32) h) ∧ (¬ (h.1 56 7) ≤ v2 → (∃ q1 : Int32 → zw_H → Prop, zcI 0 mX8_isAdmitted [.ref 56, .int v2] h q1 ∧ (∀ (x1 : Int32) (h1 : zw_H), q1 x1 h1 → ((x1 = 0 → zwI 1 mX8_admittedAt q 2 [(0, .ref 56), (1, .int v1), (2, .int (v2 + (1 : Int32)))] [] h1) ∧ (¬ x1 = 0 → (∃ j2 : Nat, v2 = nI j2 ∧ j2 < 203 ∧ ((¬ (h1.1 61 j2) = v1 → zwI 1 mX8_admittedAt q 2 [(0, .ref 56), (1, .int v1), (2, .int (v2 + (1 : Int32)))] [] h1) ∧ ((h1.1 61 j2) = v1 → q v2 h1)))))))))) : zwI 1 mX8_admittedAt q 2 [(0, .ref 56), (1, .int v1), (2, .int v2)] [] h := by
  refine zw_iload_n 2 dX8_admittedAt_2 rfl rfl rfl ?_
  refine zw_aload_n 0 dX8_admittedAt_3 rfl rfl rfl ?_
  refine zw_getI f_X8_52 dX8_admittedAt_4 zs_56 rfl rfl ?_
  refine zw_icmp_ge (tg := 36) dX8_admittedAt_7 (by decide) rfl (fun c => ?_) (fun c => ?_)
  · have K := K.1 c
    refine zw_bipush (v := (-9 : Int32)) dX8_admittedAt_36 (by decide) rfl ?_
    exact zw_ireturn (ty := .int) dX8_admittedAt_38 rfl rfl (Nat.le_refl 0) (Nat.le_refl 0) ⟨_, rfl, rfl, K⟩
  · have K := K.2 c
    refine zw_aload_n 0 dX8_admittedAt_10 rfl rfl rfl ?_
    refine zw_iload_n 2 dX8_admittedAt_11 rfl rfl rfl ?_
    obtain ⟨q1, ct, K⟩ := K
    refine zw_callV (n := 1) (As := [.int v2]) (rest := []) ct my_X8_isAdmitted rfl rfl k_X8_150 i_X8_isAdmitted s_X8_isAdmitted zs_56 rfl dX8_admittedAt_12 (by decide) (Nat.le_of_ble_eq_true rfl) (Nat.le_refl 0) (Nat.le_refl 0) rfl (fun r s1 h1 hq => ?_)
    obtain ⟨x1, rfl, rfl, hq⟩ := hq
    have K := K x1 h1 hq
    refine zw.st (st' := [.int x1]) rfl ?_
    refine zw_if_eq (tg := 30) dX8_admittedAt_15 (by decide) rfl (fun c => ?_) (fun c => ?_)
    · have K := K.1 c
      refine zw_iinc (v := (v2 + (1 : Int32))) 2 dX8_admittedAt_30 rfl rfl (by decide) rfl rfl ?_
      refine zw_goto (np := 2) dX8_admittedAt_33 (by decide) ?_
      exact zw.sub [1, 2, 0] rfl K
    · have K := K.2 c
      refine zw_aload_n 0 dX8_admittedAt_18 rfl rfl rfl ?_
      refine zw_getR f_X8_22 dX8_admittedAt_19 zs_56 rfl rfl ?_
      refine zw_iload_n 2 dX8_admittedAt_22 rfl rfl rfl ?_
      obtain ⟨j2, hj2, hn2, K⟩ := K
      refine zw_iald j2 dX8_admittedAt_23 zs_61 ⟨hj2, hn2⟩ (by decide) rfl ?_
      refine zw_iload_n 1 dX8_admittedAt_24 rfl rfl rfl ?_
      refine zw_icmp_ne (tg := 30) dX8_admittedAt_25 (by decide) rfl (fun c => ?_) (fun c => ?_)
      · have K := K.1 c
        refine zw_iinc (v := (v2 + (1 : Int32))) 2 dX8_admittedAt_30 rfl rfl (by decide) rfl rfl ?_
        refine zw_goto (np := 2) dX8_admittedAt_33 (by decide) ?_
        exact zw.sub [1, 2, 0] rfl K
      · have K := K.2 c
        refine zw_iload_n 2 dX8_admittedAt_28 rfl rfl rfl ?_
        exact zw_ireturn (ty := .int) dX8_admittedAt_29 rfl rfl (Nat.le_refl 0) (Nat.le_refl 0) ⟨_, rfl, rfl, K⟩

set_option maxRecDepth 100000 in
set_option maxHeartbeats 4000000 in
theorem rX8_unrank_0 {q : Int32 → zw_H → Prop} {h : zw_H} {v1 v2 : Int32} (K : (∃ q1 : Int32 → zw_H → Prop, zcI 1 mX8_isRegister [.int v1] h q1 ∧ (∀ (x1 : Int32) (h1 : zw_H), q1 x1 h1 → ((x1 = 0 → q (-1 : Int32) h1) ∧ (¬ x1 = 0 → (∃ q2 : Int32 → zw_H → Prop, zcI 0 mX8_in [.int v2, .int (0 : Int32), .int ((h1.1 56 8) - (1 : Int32))] h1 q2 ∧ (∀ (x2 : Int32) (h2 : zw_H), q2 x2 h2 → ((¬ x2 = 0 → (∃ q3 : Int32 → zw_H → Prop, zcI 1 mX8_admittedAt [.ref 56, .int v2] h2 q3 ∧ (∀ (x3 : Int32) (h3 : zw_H), q3 x3 h3 → (∃ q4 : Int32 → zw_H → Prop, zcI 1 mX8_puts [.ref 56, .int v1, .int x3] h3 q4 ∧ (∀ (x4 : Int32) (h4 : zw_H), q4 x4 h4 → q x4 h4))))) ∧ (x2 = 0 → q (-1 : Int32) h2))))))))) : zwI 2 mX8_unrank q 0 [(0, .ref 56), (1, .int v1), (2, .int v2)] [] h := by
  refine zw_iload_n 1 dX8_unrank_0 rfl rfl rfl ?_
  obtain ⟨q1, ct, K⟩ := K
  refine zw_callS (n := 1) (As := [.int v1]) (rest := []) ct my_X8_isRegister rfl rfl k_X8_115 t_X8_isRegister dX8_unrank_1 (by decide) (Nat.le_of_ble_eq_true rfl) (Nat.le_refl 0) (Nat.le_refl 0) rfl (fun r s1 h1 hq => ?_)
  obtain ⟨x1, rfl, rfl, hq⟩ := hq
  have K := K x1 h1 hq
  refine zw.st (st' := [.int x1]) rfl ?_
  refine zw_if_eq (tg := 21) dX8_unrank_4 (by decide) rfl (fun c => ?_) (fun c => ?_)
  · have K := K.1 c
    refine zw_iconst (v := (-1 : Int32)) dX8_unrank_21 (by decide) rfl ?_
    exact zw_ireturn (ty := .int) dX8_unrank_22 rfl rfl (Nat.le_refl 0) (Nat.le_refl 0) ⟨_, rfl, rfl, K⟩
  · have K := K.2 c
    refine zw_iload_n 2 dX8_unrank_7 rfl rfl rfl ?_
    refine zw_iconst (v := (0 : Int32)) dX8_unrank_8 (by decide) rfl ?_
    refine zw_aload_n 0 dX8_unrank_9 rfl rfl rfl ?_
    refine zw_getI f_X8_59 dX8_unrank_10 zs_56 rfl rfl ?_
    refine zw_iconst (v := (1 : Int32)) dX8_unrank_13 (by decide) rfl ?_
    refine zw_isub dX8_unrank_14 rfl ?_
    obtain ⟨q2, ct, K⟩ := K
    refine zw_callS (n := 3) (As := [.int v2, .int (0 : Int32), .int ((h1.1 56 8) - (1 : Int32))]) (rest := []) ct my_X8_in rfl rfl k_X8_96 t_X8_in dX8_unrank_15 (by decide) (Nat.le_of_ble_eq_true rfl) (Nat.le_refl 0) (Nat.le_refl 0) rfl (fun r s1 h2 hq => ?_)
    obtain ⟨x2, rfl, rfl, hq⟩ := hq
    have K := K x2 h2 hq
    refine zw.st (st' := [.int x2]) rfl ?_
    refine zw_if_ne (tg := 23) dX8_unrank_18 (by decide) rfl (fun c => ?_) (fun c => ?_)
    · have K := K.1 c
      refine zw_aload_n 0 dX8_unrank_23 rfl rfl rfl ?_
      refine zw_iload_n 1 dX8_unrank_24 rfl rfl rfl ?_
      refine zw_aload_n 0 dX8_unrank_25 rfl rfl rfl ?_
      refine zw_iload_n 2 dX8_unrank_26 rfl rfl rfl ?_
      obtain ⟨q3, ct, K⟩ := K
      refine zw_callV (n := 1) (As := [.int v2]) (rest := [.int v1, .ref 56]) ct my_X8_admittedAt rfl rfl k_X8_153 i_X8_admittedAt s_X8_admittedAt zs_56 rfl dX8_unrank_27 (by decide) (Nat.le_of_ble_eq_true rfl) (Nat.le_refl 0) (Nat.le_refl 0) rfl (fun r s1 h3 hq => ?_)
      obtain ⟨x3, rfl, rfl, hq⟩ := hq
      have K := K x3 h3 hq
      refine zw.st (st' := [.int x3, .int v1, .ref 56]) rfl ?_
      obtain ⟨q4, ct, K⟩ := K
      refine zw_callV (n := 2) (As := [.int v1, .int x3]) (rest := []) ct my_X8_puts rfl rfl k_X8_125 i_X8_puts s_X8_puts zs_56 rfl dX8_unrank_30 (by decide) (Nat.le_of_ble_eq_true rfl) (Nat.le_refl 0) (Nat.le_refl 0) rfl (fun r s1 h4 hq => ?_)
      obtain ⟨x4, rfl, rfl, hq⟩ := hq
      have K := K x4 h4 hq
      refine zw.st (st' := [.int x4]) rfl ?_
      exact zw_ireturn (ty := .int) dX8_unrank_33 rfl rfl (Nat.le_refl 0) (Nat.le_refl 0) ⟨_, rfl, rfl, K⟩
    · have K := K.2 c
      refine zw_iconst (v := (-1 : Int32)) dX8_unrank_21 (by decide) rfl ?_
      exact zw_ireturn (ty := .int) dX8_unrank_22 rfl rfl (Nat.le_refl 0) (Nat.le_refl 0) ⟨_, rfl, rfl, K⟩

set_option maxRecDepth 100000 in
set_option maxHeartbeats 4000000 in
theorem rX8_nearest_0 {q : Int32 → zw_H → Prop} {h : zw_H} {v1 v2 : Int32} (K : zwI 1 mX8_nearest q 4 [(0, .ref 56), (2, .int v2), (3, .int (v1 + v2))] [] h) : zwI 1 mX8_nearest q 0 [(0, .ref 56), (1, .int v1), (2, .int v2)] [] h := by
  refine zw_iload_n 1 dX8_nearest_0 rfl rfl rfl ?_
  refine zw_iload_n 2 dX8_nearest_1 rfl rfl rfl ?_
  refine zw_iadd dX8_nearest_2 rfl ?_
  refine zw_istore_n dX8_nearest_3 rfl (by decide) rfl rfl ?_
  exact zw.sub [1, 3, 0] rfl K

set_option maxRecDepth 100000 in
set_option maxHeartbeats 4000000 in
theorem rX8_nearest_4 {q : Int32 → zw_H → Prop} {h : zw_H} {v2 v3 : Int32} (K : (∃ q1 : Int32 → zw_H → Prop, zcI 0 mX8_in [.int v3, .int (0 : Int32), .int ((h.1 56 7) - (1 : Int32))] h q1 ∧ (∀ (x1 : Int32) (h1 : zw_H), q1 x1 h1 → ((x1 = 0 → (∃ q2 : Int32 → zw_H → Prop, zcI 0 mX8_in [.int v3, .int (0 : Int32), .int ((h1.1 56 7) - (1 : Int32))] h1 q2 ∧ (∀ (x2 : Int32) (h2 : zw_H), q2 x2 h2 → ((x2 = 0 → q (-9 : Int32) h2) ∧ (¬ x2 = 0 → q v3 h2))))) ∧ (¬ x1 = 0 → (∃ q3 : Int32 → zw_H → Prop, zcI 0 mX8_isAdmitted [.ref 56, .int v3] h1 q3 ∧ (∀ (x3 : Int32) (h3 : zw_H), q3 x3 h3 → ((¬ x3 = 0 → (∃ q4 : Int32 → zw_H → Prop, zcI 0 mX8_in [.int v3, .int (0 : Int32), .int ((h3.1 56 7) - (1 : Int32))] h3 q4 ∧ (∀ (x4 : Int32) (h4 : zw_H), q4 x4 h4 → ((x4 = 0 → q (-9 : Int32) h4) ∧ (¬ x4 = 0 → q v3 h4))))) ∧ (x3 = 0 → zwI 1 mX8_nearest q 4 [(0, .ref 56), (2, .int v2), (3, .int (v3 + v2))] [] h3))))))))) : zwI 1 mX8_nearest q 4 [(0, .ref 56), (2, .int v2), (3, .int v3)] [] h := by
  refine zw_iload_n 2 dX8_nearest_4 rfl rfl rfl ?_
  refine zw_iconst (v := (0 : Int32)) dX8_nearest_5 (by decide) rfl ?_
  refine zw_aload_n 0 dX8_nearest_6 rfl rfl rfl ?_
  refine zw_getI f_X8_52 dX8_nearest_7 zs_56 rfl rfl ?_
  refine zw_iconst (v := (1 : Int32)) dX8_nearest_10 (by decide) rfl ?_
  refine zw_isub dX8_nearest_11 rfl ?_
  obtain ⟨q1, ct, K⟩ := K
  refine zw_callS (n := 3) (As := [.int v3, .int (0 : Int32), .int ((h.1 56 7) - (1 : Int32))]) (rest := []) ct my_X8_in rfl rfl k_X8_96 t_X8_in dX8_nearest_12 (by decide) (Nat.le_of_ble_eq_true rfl) (Nat.le_refl 0) (Nat.le_refl 0) rfl (fun r s1 h1 hq => ?_)
  obtain ⟨x1, rfl, rfl, hq⟩ := hq
  have K := K x1 h1 hq
  refine zw.st (st' := [.int x1]) rfl ?_
  refine zw_if_eq (tg := 33) dX8_nearest_15 (by decide) rfl (fun c => ?_) (fun c => ?_)
  · have K := K.1 c
    refine zw_iload_n 2 dX8_nearest_33 rfl rfl rfl ?_
    refine zw_iconst (v := (0 : Int32)) dX8_nearest_34 (by decide) rfl ?_
    refine zw_aload_n 0 dX8_nearest_35 rfl rfl rfl ?_
    refine zw_getI f_X8_52 dX8_nearest_36 zs_56 rfl rfl ?_
    refine zw_iconst (v := (1 : Int32)) dX8_nearest_39 (by decide) rfl ?_
    refine zw_isub dX8_nearest_40 rfl ?_
    obtain ⟨q2, ct, K⟩ := K
    refine zw_callS (n := 3) (As := [.int v3, .int (0 : Int32), .int ((h1.1 56 7) - (1 : Int32))]) (rest := []) ct my_X8_in rfl rfl k_X8_96 t_X8_in dX8_nearest_41 (by decide) (Nat.le_of_ble_eq_true rfl) (Nat.le_refl 0) (Nat.le_refl 0) rfl (fun r s1 h2 hq => ?_)
    obtain ⟨x2, rfl, rfl, hq⟩ := hq
    have K := K x2 h2 hq
    refine zw.st (st' := [.int x2]) rfl ?_
    refine zw_if_eq (tg := 51) dX8_nearest_44 (by decide) rfl (fun c => ?_) (fun c => ?_)
    · have K := K.1 c
      refine zw_bipush (v := (-9 : Int32)) dX8_nearest_51 (by decide) rfl ?_
      exact zw_ireturn (ty := .int) dX8_nearest_53 rfl rfl (Nat.le_refl 0) (Nat.le_refl 0) ⟨_, rfl, rfl, K⟩
    · have K := K.2 c
      refine zw_iload_n 2 dX8_nearest_47 rfl rfl rfl ?_
      refine zw_goto (np := 53) dX8_nearest_48 (by decide) ?_
      exact zw_ireturn (ty := .int) dX8_nearest_53 rfl rfl (Nat.le_refl 0) (Nat.le_refl 0) ⟨_, rfl, rfl, K⟩
  · have K := K.2 c
    refine zw_aload_n 0 dX8_nearest_18 rfl rfl rfl ?_
    refine zw_iload_n 2 dX8_nearest_19 rfl rfl rfl ?_
    obtain ⟨q3, ct, K⟩ := K
    refine zw_callV (n := 1) (As := [.int v3]) (rest := []) ct my_X8_isAdmitted rfl rfl k_X8_150 i_X8_isAdmitted s_X8_isAdmitted zs_56 rfl dX8_nearest_20 (by decide) (Nat.le_of_ble_eq_true rfl) (Nat.le_refl 0) (Nat.le_refl 0) rfl (fun r s1 h3 hq => ?_)
    obtain ⟨x3, rfl, rfl, hq⟩ := hq
    have K := K x3 h3 hq
    refine zw.st (st' := [.int x3]) rfl ?_
    refine zw_if_ne (tg := 33) dX8_nearest_23 (by decide) rfl (fun c => ?_) (fun c => ?_)
    · have K := K.1 c
      refine zw_iload_n 2 dX8_nearest_33 rfl rfl rfl ?_
      refine zw_iconst (v := (0 : Int32)) dX8_nearest_34 (by decide) rfl ?_
      refine zw_aload_n 0 dX8_nearest_35 rfl rfl rfl ?_
      refine zw_getI f_X8_52 dX8_nearest_36 zs_56 rfl rfl ?_
      refine zw_iconst (v := (1 : Int32)) dX8_nearest_39 (by decide) rfl ?_
      refine zw_isub dX8_nearest_40 rfl ?_
      obtain ⟨q4, ct, K⟩ := K
      refine zw_callS (n := 3) (As := [.int v3, .int (0 : Int32), .int ((h3.1 56 7) - (1 : Int32))]) (rest := []) ct my_X8_in rfl rfl k_X8_96 t_X8_in dX8_nearest_41 (by decide) (Nat.le_of_ble_eq_true rfl) (Nat.le_refl 0) (Nat.le_refl 0) rfl (fun r s1 h4 hq => ?_)
      obtain ⟨x4, rfl, rfl, hq⟩ := hq
      have K := K x4 h4 hq
      refine zw.st (st' := [.int x4]) rfl ?_
      refine zw_if_eq (tg := 51) dX8_nearest_44 (by decide) rfl (fun c => ?_) (fun c => ?_)
      · have K := K.1 c
        refine zw_bipush (v := (-9 : Int32)) dX8_nearest_51 (by decide) rfl ?_
        exact zw_ireturn (ty := .int) dX8_nearest_53 rfl rfl (Nat.le_refl 0) (Nat.le_refl 0) ⟨_, rfl, rfl, K⟩
      · have K := K.2 c
        refine zw_iload_n 2 dX8_nearest_47 rfl rfl rfl ?_
        refine zw_goto (np := 53) dX8_nearest_48 (by decide) ?_
        exact zw_ireturn (ty := .int) dX8_nearest_53 rfl rfl (Nat.le_refl 0) (Nat.le_refl 0) ⟨_, rfl, rfl, K⟩
    · have K := K.2 c
      refine zw_iload_n 2 dX8_nearest_26 rfl rfl rfl ?_
      refine zw_iload_n 1 dX8_nearest_27 rfl rfl rfl ?_
      refine zw_iadd dX8_nearest_28 rfl ?_
      refine zw_istore_n dX8_nearest_29 rfl (by decide) rfl rfl ?_
      refine zw_goto (np := 4) dX8_nearest_30 (by decide) ?_
      exact zw.sub [1, 2, 0] rfl K

set_option maxRecDepth 100000 in
set_option maxHeartbeats 4000000 in
theorem rX8_steps_0 {q : Int32 → zw_H → Prop} {h : zw_H} {v1 v2 : Int32} (K : (∃ q1 : Int32 → zw_H → Prop, zcI 2 mX8_wrong [.ref 56, .int v1] h q1 ∧ (∀ (x1 : Int32) (h1 : zw_H), q1 x1 h1 → ((x1 = 0 → (∃ q2 : Int32 → zw_H → Prop, zcI 0 mX8_held [.ref 56, .int v1] h1 q2 ∧ (∀ (x2 : Int32) (h2 : zw_H), q2 x2 h2 → (∃ q3 : Int32 → zw_H → Prop, zcI 1 mX8_nearest [.ref 56, .int x2, .int v2] h2 q3 ∧ (∀ (x3 : Int32) (h3 : zw_H), q3 x3 h3 → ((¬ x3 = (-9 : Int32) → (∃ q4 : Int32 → zw_H → Prop, zcI 1 mX8_puts [.ref 56, .int v1, .int x3] h3 q4 ∧ (∀ (x4 : Int32) (h4 : zw_H), q4 x4 h4 → ((¬ x3 = (-9 : Int32) → (∃ j5 : Nat, x3 = nI j5 ∧ j5 < 203 ∧ q (h4.1 61 j5) h4)) ∧ (x3 = (-9 : Int32) → q (-9 : Int32) h4))))) ∧ (x3 = (-9 : Int32) → (∃ q6 : Int32 → zw_H → Prop, zcI 0 mX8_held [.ref 56, .int v1] h3 q6 ∧ (∀ (x6 : Int32) (h6 : zw_H), q6 x6 h6 → (∃ q7 : Int32 → zw_H → Prop, zcI 1 mX8_puts [.ref 56, .int v1, .int x6] h6 q7 ∧ (∀ (x7 : Int32) (h7 : zw_H), q7 x7 h7 → ((¬ x3 = (-9 : Int32) → (∃ j8 : Nat, x3 = nI j8 ∧ j8 < 203 ∧ q (h7.1 61 j8) h7)) ∧ (x3 = (-9 : Int32) → q (-9 : Int32) h7))))))))))))) ∧ (¬ x1 = 0 → q x1 h1))))) : zwI 3 mX8_steps q 0 [(0, .ref 56), (1, .int v1), (2, .int v2)] [] h := by
  refine zw_aload_n 0 dX8_steps_0 rfl rfl rfl ?_
  refine zw_iload_n 1 dX8_steps_1 rfl rfl rfl ?_
  obtain ⟨q1, ct, K⟩ := K
  refine zw_callV (n := 1) (As := [.int v1]) (rest := []) ct my_X8_wrong rfl rfl k_X8_131 i_X8_wrong s_X8_wrong zs_56 rfl dX8_steps_2 (by decide) (Nat.le_of_ble_eq_true rfl) (Nat.le_refl 0) (Nat.le_refl 0) rfl (fun r s1 h1 hq => ?_)
  obtain ⟨x1, rfl, rfl, hq⟩ := hq
  have K := K x1 h1 hq
  refine zw.st (st' := [.int x1]) rfl ?_
  refine zw_istore_n dX8_steps_5 rfl (by decide) rfl rfl ?_
  refine zw_iload_n 0 dX8_steps_6 rfl rfl rfl ?_
  refine zw_if_eq (tg := 12) dX8_steps_7 (by decide) rfl (fun c => ?_) (fun c => ?_)
  · have K := K.1 c
    refine zw_aload_n 1 dX8_steps_12 rfl rfl rfl ?_
    refine zw_aload_n 1 dX8_steps_13 rfl rfl rfl ?_
    refine zw_iload_n 2 dX8_steps_14 rfl rfl rfl ?_
    obtain ⟨q2, ct, K⟩ := K
    refine zw_callV (n := 1) (As := [.int v1]) (rest := [.ref 56]) ct my_X8_held rfl rfl k_X8_128 i_X8_held s_X8_held zs_56 rfl dX8_steps_15 (by decide) (Nat.le_of_ble_eq_true rfl) (Nat.le_refl 0) (Nat.le_refl 0) rfl (fun r s1 h2 hq => ?_)
    obtain ⟨x2, rfl, rfl, hq⟩ := hq
    have K := K x2 h2 hq
    refine zw.st (st' := [.int x2, .ref 56]) rfl ?_
    refine zw_iload_n 3 dX8_steps_18 rfl rfl rfl ?_
    obtain ⟨q3, ct, K⟩ := K
    refine zw_callV (n := 2) (As := [.int x2, .int v2]) (rest := []) ct my_X8_nearest rfl rfl k_X8_156 i_X8_nearest s_X8_nearest zs_56 rfl dX8_steps_19 (by decide) (Nat.le_of_ble_eq_true rfl) (Nat.le_refl 0) (Nat.le_refl 0) rfl (fun r s1 h3 hq => ?_)
    obtain ⟨x3, rfl, rfl, hq⟩ := hq
    have K := K x3 h3 hq
    refine zw.st (st' := [.int x3]) rfl ?_
    refine zw_istore dX8_steps_22 (by decide) rfl rfl ?_
    refine zw_aload_n 2 dX8_steps_24 rfl rfl rfl ?_
    refine zw_iload_n 3 dX8_steps_25 rfl rfl rfl ?_
    refine zw_iload 0 dX8_steps_26 rfl rfl ?_
    refine zw_bipush (v := (-9 : Int32)) dX8_steps_28 (by decide) rfl ?_
    refine zw_icmp_ne (tg := 41) dX8_steps_30 (by decide) rfl (fun c => ?_) (fun c => ?_)
    · have K := K.1 c
      refine zw_iload 0 dX8_steps_41 rfl rfl ?_
      obtain ⟨q4, ct, K⟩ := K
      refine zw_callV (n := 2) (As := [.int v1, .int x3]) (rest := []) ct my_X8_puts rfl rfl k_X8_125 i_X8_puts s_X8_puts zs_56 rfl dX8_steps_43 (by decide) (Nat.le_of_ble_eq_true rfl) (Nat.le_refl 0) (Nat.le_refl 0) rfl (fun r s1 h4 hq => ?_)
      obtain ⟨x4, rfl, rfl, hq⟩ := hq
      have K := K x4 h4 hq
      refine zw.st (st' := [.int x4]) rfl ?_
      refine zw_pop dX8_steps_46 rfl rfl ?_
      refine zw_iload 0 dX8_steps_47 rfl rfl ?_
      refine zw_bipush (v := (-9 : Int32)) dX8_steps_49 (by decide) rfl ?_
      refine zw_icmp_ne (tg := 59) dX8_steps_51 (by decide) rfl (fun c => ?_) (fun c => ?_)
      · have K := K.1 c
        refine zw_aload_n 2 dX8_steps_59 rfl rfl rfl ?_
        refine zw_getR f_X8_22 dX8_steps_60 zs_56 rfl rfl ?_
        refine zw_iload 0 dX8_steps_63 rfl rfl ?_
        obtain ⟨j5, hj5, hn5, K⟩ := K
        refine zw_iald j5 dX8_steps_65 zs_61 ⟨hj5, hn5⟩ (by decide) rfl ?_
        exact zw_ireturn (ty := .int) dX8_steps_66 rfl rfl (Nat.le_refl 0) (Nat.le_refl 0) ⟨_, rfl, rfl, K⟩
      · have K := K.2 c
        refine zw_bipush (v := (-9 : Int32)) dX8_steps_54 (by decide) rfl ?_
        refine zw_goto (np := 66) dX8_steps_56 (by decide) ?_
        exact zw_ireturn (ty := .int) dX8_steps_66 rfl rfl (Nat.le_refl 0) (Nat.le_refl 0) ⟨_, rfl, rfl, K⟩
    · have K := K.2 c
      refine zw_aload_n 2 dX8_steps_33 rfl rfl rfl ?_
      refine zw_iload_n 3 dX8_steps_34 rfl rfl rfl ?_
      obtain ⟨q6, ct, K⟩ := K
      refine zw_callV (n := 1) (As := [.int v1]) (rest := [.int v1, .ref 56]) ct my_X8_held rfl rfl k_X8_128 i_X8_held s_X8_held zs_56 rfl dX8_steps_35 (by decide) (Nat.le_of_ble_eq_true rfl) (Nat.le_refl 0) (Nat.le_refl 0) rfl (fun r s1 h6 hq => ?_)
      obtain ⟨x6, rfl, rfl, hq⟩ := hq
      have K := K x6 h6 hq
      refine zw.st (st' := [.int x6, .int v1, .ref 56]) rfl ?_
      refine zw_goto (np := 43) dX8_steps_38 (by decide) ?_
      obtain ⟨q7, ct, K⟩ := K
      refine zw_callV (n := 2) (As := [.int v1, .int x6]) (rest := []) ct my_X8_puts rfl rfl k_X8_125 i_X8_puts s_X8_puts zs_56 rfl dX8_steps_43 (by decide) (Nat.le_of_ble_eq_true rfl) (Nat.le_refl 0) (Nat.le_refl 0) rfl (fun r s1 h7 hq => ?_)
      obtain ⟨x7, rfl, rfl, hq⟩ := hq
      have K := K x7 h7 hq
      refine zw.st (st' := [.int x7]) rfl ?_
      refine zw_pop dX8_steps_46 rfl rfl ?_
      refine zw_iload 0 dX8_steps_47 rfl rfl ?_
      refine zw_bipush (v := (-9 : Int32)) dX8_steps_49 (by decide) rfl ?_
      refine zw_icmp_ne (tg := 59) dX8_steps_51 (by decide) rfl (fun c => ?_) (fun c => ?_)
      · have K := K.1 c
        refine zw_aload_n 2 dX8_steps_59 rfl rfl rfl ?_
        refine zw_getR f_X8_22 dX8_steps_60 zs_56 rfl rfl ?_
        refine zw_iload 0 dX8_steps_63 rfl rfl ?_
        obtain ⟨j8, hj8, hn8, K⟩ := K
        refine zw_iald j8 dX8_steps_65 zs_61 ⟨hj8, hn8⟩ (by decide) rfl ?_
        exact zw_ireturn (ty := .int) dX8_steps_66 rfl rfl (Nat.le_refl 0) (Nat.le_refl 0) ⟨_, rfl, rfl, K⟩
      · have K := K.2 c
        refine zw_bipush (v := (-9 : Int32)) dX8_steps_54 (by decide) rfl ?_
        refine zw_goto (np := 66) dX8_steps_56 (by decide) ?_
        exact zw_ireturn (ty := .int) dX8_steps_66 rfl rfl (Nat.le_refl 0) (Nat.le_refl 0) ⟨_, rfl, rfl, K⟩
  · have K := K.2 c
    refine zw_iload_n 0 dX8_steps_10 rfl rfl rfl ?_
    exact zw_ireturn (ty := .int) dX8_steps_11 rfl rfl (Nat.le_refl 0) (Nat.le_refl 0) ⟨_, rfl, rfl, K⟩

set_option maxRecDepth 100000 in
set_option maxHeartbeats 4000000 in
theorem rX8_next_0 {q : Int32 → zw_H → Prop} {h : zw_H} {v1 : Int32} (K : (∃ q1 : Int32 → zw_H → Prop, zcI 3 mX8_steps [.ref 56, .int v1, .int (1 : Int32)] h q1 ∧ (∀ (x1 : Int32) (h1 : zw_H), q1 x1 h1 → q x1 h1))) : zwI 4 mX8_next q 0 [(0, .ref 56), (1, .int v1)] [] h := by
  refine zw_aload_n 0 dX8_next_0 rfl rfl rfl ?_
  refine zw_iload_n 1 dX8_next_1 rfl rfl rfl ?_
  refine zw_iconst (v := (1 : Int32)) dX8_next_2 (by decide) rfl ?_
  obtain ⟨q1, ct, K⟩ := K
  refine zw_callV (n := 2) (As := [.int v1, .int (1 : Int32)]) (rest := []) ct my_X8_steps rfl rfl k_X8_159 i_X8_steps s_X8_steps zs_56 rfl dX8_next_3 (by decide) (Nat.le_of_ble_eq_true rfl) (Nat.le_refl 0) (Nat.le_refl 0) rfl (fun r s1 h1 hq => ?_)
  obtain ⟨x1, rfl, rfl, hq⟩ := hq
  have K := K x1 h1 hq
  refine zw.st (st' := [.int x1]) rfl ?_
  exact zw_ireturn (ty := .int) dX8_next_6 rfl rfl (Nat.le_refl 0) (Nat.le_refl 0) ⟨_, rfl, rfl, K⟩

set_option maxRecDepth 100000 in
set_option maxHeartbeats 4000000 in
theorem rX8_previous_0 {q : Int32 → zw_H → Prop} {h : zw_H} {v1 : Int32} (K : (∃ q1 : Int32 → zw_H → Prop, zcI 3 mX8_steps [.ref 56, .int v1, .int (-1 : Int32)] h q1 ∧ (∀ (x1 : Int32) (h1 : zw_H), q1 x1 h1 → q x1 h1))) : zwI 4 mX8_previous q 0 [(0, .ref 56), (1, .int v1)] [] h := by
  refine zw_aload_n 0 dX8_previous_0 rfl rfl rfl ?_
  refine zw_iload_n 1 dX8_previous_1 rfl rfl rfl ?_
  refine zw_iconst (v := (-1 : Int32)) dX8_previous_2 (by decide) rfl ?_
  obtain ⟨q1, ct, K⟩ := K
  refine zw_callV (n := 2) (As := [.int v1, .int (-1 : Int32)]) (rest := []) ct my_X8_steps rfl rfl k_X8_159 i_X8_steps s_X8_steps zs_56 rfl dX8_previous_3 (by decide) (Nat.le_of_ble_eq_true rfl) (Nat.le_refl 0) (Nat.le_refl 0) rfl (fun r s1 h1 hq => ?_)
  obtain ⟨x1, rfl, rfl, hq⟩ := hq
  have K := K x1 h1 hq
  refine zw.st (st' := [.int x1]) rfl ?_
  exact zw_ireturn (ty := .int) dX8_previous_6 rfl rfl (Nat.le_refl 0) (Nat.le_refl 0) ⟨_, rfl, rfl, K⟩

set_option maxRecDepth 100000 in
set_option maxHeartbeats 4000000 in
theorem rX8_draw_0 {q : Int32 → zw_H → Prop} {h : zw_H} {v1 v2 : Int32} (K : (∃ q1 : Int32 → zw_H → Prop, zcI 1 mX8_isRegister [.int v1] h q1 ∧ (∀ (x1 : Int32) (h1 : zw_H), q1 x1 h1 → ((¬ x1 = 0 → ((¬ (h1.1 56 8) = 0 → (¬ (h1.1 56 8) = 0 ∧ (∃ q2 : Int32 → zw_H → Prop, zcI 1 mX8_admittedAt [.ref 56, .int ((((Int32.toUInt32 ((v2 * (1103515245 : Int32)) + (12345 : Int32)) >>> (Int32.toUInt32 (16 : Int32) &&& Int32.toUInt32 31)).toInt32) &&& (32767 : Int32)) - (((Int32.toUInt32 ((v2 * (1103515245 : Int32)) + (12345 : Int32)) >>> (Int32.toUInt32 (16 : Int32) &&& Int32.toUInt32 31)).toInt32) &&& (32767 : Int32)) / (h1.1 56 8) * (h1.1 56 8))] h1 q2 ∧ (∀ (x2 : Int32) (h2 : zw_H), q2 x2 h2 → (∃ q3 : Int32 → zw_H → Prop, zcI 1 mX8_puts [.ref 56, .int v1, .int x2] h2 q3 ∧ (∀ (x3 : Int32) (h3 : zw_H), q3 x3 h3 → q ((((Int32.toUInt32 ((v2 * (1103515245 : Int32)) + (12345 : Int32)) >>> (Int32.toUInt32 (16 : Int32) &&& Int32.toUInt32 31)).toInt32) &&& (32767 : Int32)) - (((Int32.toUInt32 ((v2 * (1103515245 : Int32)) + (12345 : Int32)) >>> (Int32.toUInt32 (16 : Int32) &&& Int32.toUInt32 31)).toInt32) &&& (32767 : Int32)) / (h1.1 56 8) * (h1.1 56 8)) h3)))))) ∧ ((h1.1 56 8) = 0 → q (-3 : Int32) h1))) ∧ (x1 = 0 → q (-1 : Int32) h1))))) : zwI 2 mX8_draw q 0 [(0, .ref 56), (1, .int v1), (2, .int v2)] [] h := by
  refine zw_iload_n 1 dX8_draw_0 rfl rfl rfl ?_
  obtain ⟨q1, ct, K⟩ := K
  refine zw_callS (n := 1) (As := [.int v1]) (rest := []) ct my_X8_isRegister rfl rfl k_X8_115 t_X8_isRegister dX8_draw_1 (by decide) (Nat.le_of_ble_eq_true rfl) (Nat.le_refl 0) (Nat.le_refl 0) rfl (fun r s1 h1 hq => ?_)
  obtain ⟨x1, rfl, rfl, hq⟩ := hq
  have K := K x1 h1 hq
  refine zw.st (st' := [.int x1]) rfl ?_
  refine zw_if_ne (tg := 9) dX8_draw_4 (by decide) rfl (fun c => ?_) (fun c => ?_)
  · have K := K.1 c
    refine zw_aload_n 0 dX8_draw_9 rfl rfl rfl ?_
    refine zw_getI f_X8_59 dX8_draw_10 zs_56 rfl rfl ?_
    refine zw_if_ne (tg := 19) dX8_draw_13 (by decide) rfl (fun c => ?_) (fun c => ?_)
    · have K := K.1 c
      refine zw_iload_n 2 dX8_draw_19 rfl rfl rfl ?_
      refine zw_ldc n_X8_162 dX8_draw_20 rfl ?_
      refine zw_imul dX8_draw_22 rfl ?_
      refine zw_sipush (v := (12345 : Int32)) dX8_draw_23 (by decide) rfl ?_
      refine zw_iadd dX8_draw_26 rfl ?_
      refine zw_istore_n dX8_draw_27 rfl (by decide) rfl rfl ?_
      refine zw_iload_n 0 dX8_draw_28 rfl rfl rfl ?_
      refine zw_bipush (v := (16 : Int32)) dX8_draw_29 (by decide) rfl ?_
      refine zw_iushr dX8_draw_31 rfl ?_
      refine zw_sipush (v := (32767 : Int32)) dX8_draw_32 (by decide) rfl ?_
      refine zw_iand dX8_draw_35 rfl ?_
      refine zw_aload_n 1 dX8_draw_36 rfl rfl rfl ?_
      refine zw_getI f_X8_59 dX8_draw_37 zs_56 rfl rfl ?_
      obtain ⟨hz, K⟩ := K
      refine zw_irem dX8_draw_40 hz rfl ?_
      refine zw_istore dX8_draw_41 (by decide) rfl rfl ?_
      refine zw_aload_n 2 dX8_draw_43 rfl rfl rfl ?_
      refine zw_iload_n 3 dX8_draw_44 rfl rfl rfl ?_
      refine zw_aload_n 2 dX8_draw_45 rfl rfl rfl ?_
      refine zw_iload 0 dX8_draw_46 rfl rfl ?_
      obtain ⟨q2, ct, K⟩ := K
      refine zw_callV (n := 1) (As := [.int ((((Int32.toUInt32 ((v2 * (1103515245 : Int32)) + (12345 : Int32)) >>> (Int32.toUInt32 (16 : Int32) &&& Int32.toUInt32 31)).toInt32) &&& (32767 : Int32)) - (((Int32.toUInt32 ((v2 * (1103515245 : Int32)) + (12345 : Int32)) >>> (Int32.toUInt32 (16 : Int32) &&& Int32.toUInt32 31)).toInt32) &&& (32767 : Int32)) / (h1.1 56 8) * (h1.1 56 8))]) (rest := [.int v1, .ref 56]) ct my_X8_admittedAt rfl rfl k_X8_153 i_X8_admittedAt s_X8_admittedAt zs_56 rfl dX8_draw_48 (by decide) (Nat.le_of_ble_eq_true rfl) (Nat.le_refl 0) (Nat.le_refl 0) rfl (fun r s1 h2 hq => ?_)
      obtain ⟨x2, rfl, rfl, hq⟩ := hq
      have K := K x2 h2 hq
      refine zw.st (st' := [.int x2, .int v1, .ref 56]) rfl ?_
      obtain ⟨q3, ct, K⟩ := K
      refine zw_callV (n := 2) (As := [.int v1, .int x2]) (rest := []) ct my_X8_puts rfl rfl k_X8_125 i_X8_puts s_X8_puts zs_56 rfl dX8_draw_51 (by decide) (Nat.le_of_ble_eq_true rfl) (Nat.le_refl 0) (Nat.le_refl 0) rfl (fun r s1 h3 hq => ?_)
      obtain ⟨x3, rfl, rfl, hq⟩ := hq
      have K := K x3 h3 hq
      refine zw.st (st' := [.int x3]) rfl ?_
      refine zw_pop dX8_draw_54 rfl rfl ?_
      refine zw_iload 0 dX8_draw_55 rfl rfl ?_
      exact zw_ireturn (ty := .int) dX8_draw_57 rfl rfl (Nat.le_refl 0) (Nat.le_refl 0) ⟨_, rfl, rfl, K⟩
    · have K := K.2 c
      refine zw_bipush (v := (-3 : Int32)) dX8_draw_16 (by decide) rfl ?_
      exact zw_ireturn (ty := .int) dX8_draw_18 rfl rfl (Nat.le_refl 0) (Nat.le_refl 0) ⟨_, rfl, rfl, K⟩
  · have K := K.2 c
    refine zw_iconst (v := (-1 : Int32)) dX8_draw_7 (by decide) rfl ?_
    exact zw_ireturn (ty := .int) dX8_draw_8 rfl rfl (Nat.le_refl 0) (Nat.le_refl 0) ⟨_, rfl, rfl, K⟩

set_option maxRecDepth 100000 in
set_option maxHeartbeats 4000000 in
theorem rX8_blocks_0 {q : Int32 → zw_H → Prop} {h : zw_H} {v1 : Int32} (K : (∃ q1 : Int32 → zw_H → Prop, zcI 2 mX8_wrong [.ref 56, .int v1] h q1 ∧ (∀ (x1 : Int32) (h1 : zw_H), q1 x1 h1 → ((x1 = 0 → (∃ q2 : Int32 → zw_H → Prop, zcI 0 mX8_held [.ref 56, .int v1] h1 q2 ∧ (∀ (x2 : Int32) (h2 : zw_H), q2 x2 h2 → (∃ j3 : Nat, x2 = nI j3 ∧ j3 < 203 ∧ q (h2.1 60 j3) h2)))) ∧ (¬ x1 = 0 → q x1 h1))))) : zwI 3 mX8_blocks q 0 [(0, .ref 56), (1, .int v1)] [] h := by
  refine zw_aload_n 0 dX8_blocks_0 rfl rfl rfl ?_
  refine zw_iload_n 1 dX8_blocks_1 rfl rfl rfl ?_
  obtain ⟨q1, ct, K⟩ := K
  refine zw_callV (n := 1) (As := [.int v1]) (rest := []) ct my_X8_wrong rfl rfl k_X8_131 i_X8_wrong s_X8_wrong zs_56 rfl dX8_blocks_2 (by decide) (Nat.le_of_ble_eq_true rfl) (Nat.le_refl 0) (Nat.le_refl 0) rfl (fun r s1 h1 hq => ?_)
  obtain ⟨x1, rfl, rfl, hq⟩ := hq
  have K := K x1 h1 hq
  refine zw.st (st' := [.int x1]) rfl ?_
  refine zw_istore_n dX8_blocks_5 rfl (by decide) rfl rfl ?_
  refine zw_iload_n 0 dX8_blocks_6 rfl rfl rfl ?_
  refine zw_if_eq (tg := 14) dX8_blocks_7 (by decide) rfl (fun c => ?_) (fun c => ?_)
  · have K := K.1 c
    refine zw_aload_n 1 dX8_blocks_14 rfl rfl rfl ?_
    refine zw_getR f_X8_19 dX8_blocks_15 zs_56 rfl rfl ?_
    refine zw_aload_n 1 dX8_blocks_18 rfl rfl rfl ?_
    refine zw_iload_n 2 dX8_blocks_19 rfl rfl rfl ?_
    obtain ⟨q2, ct, K⟩ := K
    refine zw_callV (n := 1) (As := [.int v1]) (rest := [.ref 60]) ct my_X8_held rfl rfl k_X8_128 i_X8_held s_X8_held zs_56 rfl dX8_blocks_20 (by decide) (Nat.le_of_ble_eq_true rfl) (Nat.le_refl 0) (Nat.le_refl 0) rfl (fun r s1 h2 hq => ?_)
    obtain ⟨x2, rfl, rfl, hq⟩ := hq
    have K := K x2 h2 hq
    refine zw.st (st' := [.int x2, .ref 60]) rfl ?_
    obtain ⟨j3, hj3, hn3, K⟩ := K
    refine zw_iald j3 dX8_blocks_23 zs_60 ⟨hj3, hn3⟩ (by decide) rfl ?_
    exact zw_ireturn (ty := .int) dX8_blocks_24 rfl rfl (Nat.le_refl 0) (Nat.le_refl 0) ⟨_, rfl, rfl, K⟩
  · have K := K.2 c
    refine zw_iload_n 0 dX8_blocks_10 rfl rfl rfl ?_
    refine zw_goto (np := 24) dX8_blocks_11 (by decide) ?_
    exact zw_ireturn (ty := .int) dX8_blocks_24 rfl rfl (Nat.le_refl 0) (Nat.le_refl 0) ⟨_, rfl, rfl, K⟩

set_option maxRecDepth 100000 in
set_option maxHeartbeats 4000000 in
theorem rX8_blockOf_0 {q : Int32 → zw_H → Prop} {h : zw_H} {v1 v2 : Int32} (K : (∃ q1 : Int32 → zw_H → Prop, zcI 1 mX8_isRegister [.int v1] h q1 ∧ (∀ (x1 : Int32) (h1 : zw_H), q1 x1 h1 → ((x1 = 0 → q (-1 : Int32) h1) ∧ (¬ x1 = 0 → (∃ q2 : Int32 → zw_H → Prop, zcI 1 mX8_isElement [.ref 56, .int v2] h1 q2 ∧ (∀ (x2 : Int32) (h2 : zw_H), q2 x2 h2 → ((¬ x2 = 0 → (∃ q3 : Int32 → zw_H → Prop, zcI 0 mX8_held [.ref 56, .int v1] h2 q3 ∧ (∀ (x3 : Int32) (h3 : zw_H), q3 x3 h3 → ((¬ x3 = (-9 : Int32) → (∃ q4 : Int32 → zw_H → Prop, zcI 0 mX8_held [.ref 56, .int v1] h3 q4 ∧ (∀ (x4 : Int32) (h4 : zw_H), q4 x4 h4 → (∃ q5 : Int32 → zw_H → Prop, zcI 0 mX8_at [.ref 56, .int x4, .int v2] h4 q5 ∧ (∀ (x5 : Int32) (h5 : zw_H), q5 x5 h5 → q x5 h5))))) ∧ (x3 = (-9 : Int32) → q (-2 : Int32) h3))))) ∧ (x2 = 0 → q (-1 : Int32) h2))))))))) : zwI 2 mX8_blockOf q 0 [(0, .ref 56), (1, .int v1), (2, .int v2)] [] h := by
  refine zw_iload_n 1 dX8_blockOf_0 rfl rfl rfl ?_
  obtain ⟨q1, ct, K⟩ := K
  refine zw_callS (n := 1) (As := [.int v1]) (rest := []) ct my_X8_isRegister rfl rfl k_X8_115 t_X8_isRegister dX8_blockOf_1 (by decide) (Nat.le_of_ble_eq_true rfl) (Nat.le_refl 0) (Nat.le_refl 0) rfl (fun r s1 h1 hq => ?_)
  obtain ⟨x1, rfl, rfl, hq⟩ := hq
  have K := K x1 h1 hq
  refine zw.st (st' := [.int x1]) rfl ?_
  refine zw_if_eq (tg := 15) dX8_blockOf_4 (by decide) rfl (fun c => ?_) (fun c => ?_)
  · have K := K.1 c
    refine zw_iconst (v := (-1 : Int32)) dX8_blockOf_15 (by decide) rfl ?_
    exact zw_ireturn (ty := .int) dX8_blockOf_16 rfl rfl (Nat.le_refl 0) (Nat.le_refl 0) ⟨_, rfl, rfl, K⟩
  · have K := K.2 c
    refine zw_aload_n 0 dX8_blockOf_7 rfl rfl rfl ?_
    refine zw_iload_n 2 dX8_blockOf_8 rfl rfl rfl ?_
    obtain ⟨q2, ct, K⟩ := K
    refine zw_callV (n := 1) (As := [.int v2]) (rest := []) ct my_X8_isElement rfl rfl k_X8_105 i_X8_isElement s_X8_isElement zs_56 rfl dX8_blockOf_9 (by decide) (Nat.le_of_ble_eq_true rfl) (Nat.le_refl 0) (Nat.le_refl 0) rfl (fun r s1 h2 hq => ?_)
    obtain ⟨x2, rfl, rfl, hq⟩ := hq
    have K := K x2 h2 hq
    refine zw.st (st' := [.int x2]) rfl ?_
    refine zw_if_ne (tg := 17) dX8_blockOf_12 (by decide) rfl (fun c => ?_) (fun c => ?_)
    · have K := K.1 c
      refine zw_aload_n 0 dX8_blockOf_17 rfl rfl rfl ?_
      refine zw_iload_n 1 dX8_blockOf_18 rfl rfl rfl ?_
      obtain ⟨q3, ct, K⟩ := K
      refine zw_callV (n := 1) (As := [.int v1]) (rest := []) ct my_X8_held rfl rfl k_X8_128 i_X8_held s_X8_held zs_56 rfl dX8_blockOf_19 (by decide) (Nat.le_of_ble_eq_true rfl) (Nat.le_refl 0) (Nat.le_refl 0) rfl (fun r s1 h3 hq => ?_)
      obtain ⟨x3, rfl, rfl, hq⟩ := hq
      have K := K x3 h3 hq
      refine zw.st (st' := [.int x3]) rfl ?_
      refine zw_bipush (v := (-9 : Int32)) dX8_blockOf_22 (by decide) rfl ?_
      refine zw_icmp_ne (tg := 32) dX8_blockOf_24 (by decide) rfl (fun c => ?_) (fun c => ?_)
      · have K := K.1 c
        refine zw_aload_n 0 dX8_blockOf_32 rfl rfl rfl ?_
        refine zw_aload_n 0 dX8_blockOf_33 rfl rfl rfl ?_
        refine zw_iload_n 1 dX8_blockOf_34 rfl rfl rfl ?_
        obtain ⟨q4, ct, K⟩ := K
        refine zw_callV (n := 1) (As := [.int v1]) (rest := [.ref 56]) ct my_X8_held rfl rfl k_X8_128 i_X8_held s_X8_held zs_56 rfl dX8_blockOf_35 (by decide) (Nat.le_of_ble_eq_true rfl) (Nat.le_refl 0) (Nat.le_refl 0) rfl (fun r s1 h4 hq => ?_)
        obtain ⟨x4, rfl, rfl, hq⟩ := hq
        have K := K x4 h4 hq
        refine zw.st (st' := [.int x4, .ref 56]) rfl ?_
        refine zw_iload_n 2 dX8_blockOf_38 rfl rfl rfl ?_
        obtain ⟨q5, ct, K⟩ := K
        refine zw_callV (n := 2) (As := [.int x4, .int v2]) (rest := []) ct my_X8_at rfl rfl k_X8_65 i_X8_at s_X8_at zs_56 rfl dX8_blockOf_39 (by decide) (Nat.le_of_ble_eq_true rfl) (Nat.le_refl 0) (Nat.le_refl 0) rfl (fun r s1 h5 hq => ?_)
        obtain ⟨x5, rfl, rfl, hq⟩ := hq
        have K := K x5 h5 hq
        refine zw.st (st' := [.int x5]) rfl ?_
        exact zw_ireturn (ty := .int) dX8_blockOf_42 rfl rfl (Nat.le_refl 0) (Nat.le_refl 0) ⟨_, rfl, rfl, K⟩
      · have K := K.2 c
        refine zw_bipush (v := (-2 : Int32)) dX8_blockOf_27 (by decide) rfl ?_
        refine zw_goto (np := 42) dX8_blockOf_29 (by decide) ?_
        exact zw_ireturn (ty := .int) dX8_blockOf_42 rfl rfl (Nat.le_refl 0) (Nat.le_refl 0) ⟨_, rfl, rfl, K⟩
    · have K := K.2 c
      refine zw_iconst (v := (-1 : Int32)) dX8_blockOf_15 (by decide) rfl ?_
      exact zw_ireturn (ty := .int) dX8_blockOf_16 rfl rfl (Nat.le_refl 0) (Nat.le_refl 0) ⟨_, rfl, rfl, K⟩

set_option maxRecDepth 100000 in
set_option maxHeartbeats 4000000 in
theorem rX8_block_0 {q : Int32 → zw_H → Prop} {h : zw_H} {v1 v2 : Int32} (K : (∃ q1 : Int32 → zw_H → Prop, zcI 2 mX8_wrong [.ref 56, .int v1] h q1 ∧ (∀ (x1 : Int32) (h1 : zw_H), q1 x1 h1 → ((x1 = 0 → zwI 3 mX8_block q 18 [(0, .ref 56), (1, .int v1), (2, .int v2), (4, .int (0 : Int32)), (5, .int (0 : Int32))] [] h1) ∧ (¬ x1 = 0 → q x1 h1))))) : zwI 3 mX8_block q 0 [(0, .ref 56), (1, .int v1), (2, .int v2)] [] h := by
  refine zw_aload_n 0 dX8_block_0 rfl rfl rfl ?_
  refine zw_iload_n 1 dX8_block_1 rfl rfl rfl ?_
  obtain ⟨q1, ct, K⟩ := K
  refine zw_callV (n := 1) (As := [.int v1]) (rest := []) ct my_X8_wrong rfl rfl k_X8_131 i_X8_wrong s_X8_wrong zs_56 rfl dX8_block_2 (by decide) (Nat.le_of_ble_eq_true rfl) (Nat.le_refl 0) (Nat.le_refl 0) rfl (fun r s1 h1 hq => ?_)
  obtain ⟨x1, rfl, rfl, hq⟩ := hq
  have K := K x1 h1 hq
  refine zw.st (st' := [.int x1]) rfl ?_
  refine zw_istore_n dX8_block_5 rfl (by decide) rfl rfl ?_
  refine zw_iload_n 0 dX8_block_6 rfl rfl rfl ?_
  refine zw_if_eq (tg := 12) dX8_block_7 (by decide) rfl (fun c => ?_) (fun c => ?_)
  · have K := K.1 c
    refine zw_iconst (v := (0 : Int32)) dX8_block_12 (by decide) rfl ?_
    refine zw_istore dX8_block_13 (by decide) rfl rfl ?_
    refine zw_iconst (v := (0 : Int32)) dX8_block_15 (by decide) rfl ?_
    refine zw_istore dX8_block_16 (by decide) rfl rfl ?_
    exact zw.sub [3, 4, 5, 1, 0] rfl K
  · have K := K.2 c
    refine zw_iload_n 0 dX8_block_10 rfl rfl rfl ?_
    exact zw_ireturn (ty := .int) dX8_block_11 rfl rfl (Nat.le_refl 0) (Nat.le_refl 0) ⟨_, rfl, rfl, K⟩

set_option maxRecDepth 100000 in
set_option maxHeartbeats 4000000 in
theorem rX8_block_18 {q : Int32 → zw_H → Prop} {h : zw_H} {v1 v2 v4 v5 : Int32} (K : (((h.1 57 0) ≤ v5 → ((¬ v4 = 0 → q v4 h) ∧ (v4 = 0 → q (-9 : Int32) h))) ∧ (¬ (h.1 57 0) ≤ v5 → (∃ q1 : Int32 → zw_H → Prop, zcI 0 mX8_held [.ref 56, .int v1] h q1 ∧ (∀ (x1 : Int32) (h1 : zw_H), q1 x1 h1 → (∃ q2 : Int32 → zw_H → Prop, zcI 0 mX8_at [.ref 56, .int x1, .int v5] h1 q2 ∧ (∀ (x2 : Int32) (h2 : zw_H), q2 x2 h2 → ((¬ x2 = v2 → zwI 3 mX8_block q 18 [(0, .ref 56), (1, .int v1), (2, .int v2), (4, .int (v4 ||| (0 : Int32))), (5, .int (v5 + (1 : Int32)))] [] h2) ∧ (x2 = v2 → zwI 3 mX8_block q 18 [(0, .ref 56), (1, .int v1), (2, .int v2), (4, .int (v4 ||| ((1 : Int32) <<< (v5 &&& 31)))), (5, .int (v5 + (1 : Int32)))] [] h2))))))))) : zwI 3 mX8_block q 18 [(0, .ref 56), (1, .int v1), (2, .int v2), (4, .int v4), (5, .int v5)] [] h := by
  refine zw_iload 4 dX8_block_18 rfl rfl ?_
  refine zw_aload_n 0 dX8_block_20 rfl rfl rfl ?_
  refine zw_getR f_X8_7 dX8_block_21 zs_56 rfl rfl ?_
  refine zw_iconst (v := (0 : Int32)) dX8_block_24 (by decide) rfl ?_
  refine zw_iald 0 dX8_block_25 zs_57 ⟨by decide, by decide⟩ (by decide) rfl ?_
  refine zw_icmp_ge (tg := 63) dX8_block_26 (by decide) rfl (fun c => ?_) (fun c => ?_)
  · have K := K.1 c
    refine zw_iload 3 dX8_block_63 rfl rfl ?_
    refine zw_if_ne (tg := 73) dX8_block_65 (by decide) rfl (fun c => ?_) (fun c => ?_)
    · have K := K.1 c
      refine zw_iload 3 dX8_block_73 rfl rfl ?_
      exact zw_ireturn (ty := .int) dX8_block_75 rfl rfl (Nat.le_refl 0) (Nat.le_refl 0) ⟨_, rfl, rfl, K⟩
    · have K := K.2 c
      refine zw_bipush (v := (-9 : Int32)) dX8_block_68 (by decide) rfl ?_
      refine zw_goto (np := 75) dX8_block_70 (by decide) ?_
      exact zw_ireturn (ty := .int) dX8_block_75 rfl rfl (Nat.le_refl 0) (Nat.le_refl 0) ⟨_, rfl, rfl, K⟩
  · have K := K.2 c
    refine zw_iload 3 dX8_block_29 rfl rfl ?_
    refine zw_aload_n 0 dX8_block_31 rfl rfl rfl ?_
    refine zw_aload_n 0 dX8_block_32 rfl rfl rfl ?_
    refine zw_iload_n 1 dX8_block_33 rfl rfl rfl ?_
    obtain ⟨q1, ct, K⟩ := K
    refine zw_callV (n := 1) (As := [.int v1]) (rest := [.ref 56, .int v4]) ct my_X8_held rfl rfl k_X8_128 i_X8_held s_X8_held zs_56 rfl dX8_block_34 (by decide) (Nat.le_of_ble_eq_true rfl) (Nat.le_refl 0) (Nat.le_refl 0) rfl (fun r s1 h1 hq => ?_)
    obtain ⟨x1, rfl, rfl, hq⟩ := hq
    have K := K x1 h1 hq
    refine zw.st (st' := [.int x1, .ref 56, .int v4]) rfl ?_
    refine zw_iload 4 dX8_block_37 rfl rfl ?_
    obtain ⟨q2, ct, K⟩ := K
    refine zw_callV (n := 2) (As := [.int x1, .int v5]) (rest := [.int v4]) ct my_X8_at rfl rfl k_X8_65 i_X8_at s_X8_at zs_56 rfl dX8_block_39 (by decide) (Nat.le_of_ble_eq_true rfl) (Nat.le_refl 0) (Nat.le_refl 0) rfl (fun r s1 h2 hq => ?_)
    obtain ⟨x2, rfl, rfl, hq⟩ := hq
    have K := K x2 h2 hq
    refine zw.st (st' := [.int x2, .int v4]) rfl ?_
    refine zw_iload_n 2 dX8_block_42 rfl rfl rfl ?_
    refine zw_icmp_ne (tg := 53) dX8_block_43 (by decide) rfl (fun c => ?_) (fun c => ?_)
    · have K := K.1 c
      refine zw_iconst (v := (0 : Int32)) dX8_block_53 (by decide) rfl ?_
      refine zw_ior dX8_block_54 rfl ?_
      refine zw_istore dX8_block_55 (by decide) rfl rfl ?_
      refine zw_iinc (v := (v5 + (1 : Int32))) 4 dX8_block_57 rfl rfl (by decide) rfl rfl ?_
      refine zw_goto (np := 18) dX8_block_60 (by decide) ?_
      exact zw.sub [2, 3, 4, 1, 0] rfl K
    · have K := K.2 c
      refine zw_iconst (v := (1 : Int32)) dX8_block_46 (by decide) rfl ?_
      refine zw_iload 4 dX8_block_47 rfl rfl ?_
      refine zw_ishl dX8_block_49 rfl ?_
      refine zw_goto (np := 54) dX8_block_50 (by decide) ?_
      refine zw_ior dX8_block_54 rfl ?_
      refine zw_istore dX8_block_55 (by decide) rfl rfl ?_
      refine zw_iinc (v := (v5 + (1 : Int32))) 4 dX8_block_57 rfl rfl (by decide) rfl rfl ?_
      refine zw_goto (np := 18) dX8_block_60 (by decide) ?_
      exact zw.sub [2, 3, 4, 1, 0] rfl K

set_option maxRecDepth 100000 in
set_option maxHeartbeats 4000000 in
theorem rX8_typeOf_0 {q : Int32 → zw_H → Prop} {h : zw_H} {v1 : Int32} (K : (∃ q1 : Int32 → zw_H → Prop, zcI 2 mX8_wrong [.ref 56, .int v1] h q1 ∧ (∀ (x1 : Int32) (h1 : zw_H), q1 x1 h1 → ((x1 = 0 → zwI 3 mX8_typeOf q 17 [(0, .ref 56), (1, .int v1), (3, .int (0 : Int32)), (4, .int (0 : Int32))] [] h1) ∧ (¬ x1 = 0 → q x1 h1))))) : zwI 3 mX8_typeOf q 0 [(0, .ref 56), (1, .int v1)] [] h := by
  refine zw_aload_n 0 dX8_typeOf_0 rfl rfl rfl ?_
  refine zw_iload_n 1 dX8_typeOf_1 rfl rfl rfl ?_
  obtain ⟨q1, ct, K⟩ := K
  refine zw_callV (n := 1) (As := [.int v1]) (rest := []) ct my_X8_wrong rfl rfl k_X8_131 i_X8_wrong s_X8_wrong zs_56 rfl dX8_typeOf_2 (by decide) (Nat.le_of_ble_eq_true rfl) (Nat.le_refl 0) (Nat.le_refl 0) rfl (fun r s1 h1 hq => ?_)
  obtain ⟨x1, rfl, rfl, hq⟩ := hq
  have K := K x1 h1 hq
  refine zw.st (st' := [.int x1]) rfl ?_
  refine zw_istore_n dX8_typeOf_5 rfl (by decide) rfl rfl ?_
  refine zw_iload_n 0 dX8_typeOf_6 rfl rfl rfl ?_
  refine zw_if_eq (tg := 12) dX8_typeOf_7 (by decide) rfl (fun c => ?_) (fun c => ?_)
  · have K := K.1 c
    refine zw_iconst (v := (0 : Int32)) dX8_typeOf_12 (by decide) rfl ?_
    refine zw_istore_n dX8_typeOf_13 rfl (by decide) rfl rfl ?_
    refine zw_iconst (v := (0 : Int32)) dX8_typeOf_14 (by decide) rfl ?_
    refine zw_istore dX8_typeOf_15 (by decide) rfl rfl ?_
    exact zw.sub [3, 4, 1, 0] rfl K
  · have K := K.2 c
    refine zw_iload_n 0 dX8_typeOf_10 rfl rfl rfl ?_
    exact zw_ireturn (ty := .int) dX8_typeOf_11 rfl rfl (Nat.le_refl 0) (Nat.le_refl 0) ⟨_, rfl, rfl, K⟩

set_option maxRecDepth 100000 in
set_option maxHeartbeats 4000000 in
theorem rX8_typeOf_17 {q : Int32 → zw_H → Prop} {h : zw_H} {v1 v3 v4 : Int32} (K : (∃ q1 : Int32 → zw_H → Prop, zcI 0 mX8_held [.ref 56, .int v1] h q1 ∧ (∀ (x1 : Int32) (h1 : zw_H), q1 x1 h1 → (∃ j2 : Nat, x1 = nI j2 ∧ j2 < 203 ∧ (((h1.1 60 j2) ≤ v4 → q v3 h1) ∧ (¬ (h1.1 60 j2) ≤ v4 → (∃ q3 : Int32 → zw_H → Prop, zcI 0 mX8_held [.ref 56, .int v1] h1 q3 ∧ (∀ (x3 : Int32) (h3 : zw_H), q3 x3 h3 → (∃ q4 : Int32 → zw_H → Prop, zcI 1 mX8_sizeOf [.ref 56, .int x3, .int v4] h3 q4 ∧ (∀ (x4 : Int32) (h4 : zw_H), q4 x4 h4 → zwI 3 mX8_typeOf q 17 [(0, .ref 56), (1, .int v1), (3, .int (v3 + ((1 : Int32) <<< (((3 : Int32) * (x4 - (1 : Int32))) &&& 31)))), (4, .int (v4 + (1 : Int32)))] [] h4)))))))))) : zwI 3 mX8_typeOf q 17 [(0, .ref 56), (1, .int v1), (3, .int v3), (4, .int v4)] [] h := by
  refine zw_iload 3 dX8_typeOf_17 rfl rfl ?_
  refine zw_aload_n 0 dX8_typeOf_19 rfl rfl rfl ?_
  refine zw_getR f_X8_19 dX8_typeOf_20 zs_56 rfl rfl ?_
  refine zw_aload_n 0 dX8_typeOf_23 rfl rfl rfl ?_
  refine zw_iload_n 1 dX8_typeOf_24 rfl rfl rfl ?_
  obtain ⟨q1, ct, K⟩ := K
  refine zw_callV (n := 1) (As := [.int v1]) (rest := [.ref 60, .int v4]) ct my_X8_held rfl rfl k_X8_128 i_X8_held s_X8_held zs_56 rfl dX8_typeOf_25 (by decide) (Nat.le_of_ble_eq_true rfl) (Nat.le_refl 0) (Nat.le_refl 0) rfl (fun r s1 h1 hq => ?_)
  obtain ⟨x1, rfl, rfl, hq⟩ := hq
  have K := K x1 h1 hq
  refine zw.st (st' := [.int x1, .ref 60, .int v4]) rfl ?_
  obtain ⟨j2, hj2, hn2, K⟩ := K
  refine zw_iald j2 dX8_typeOf_28 zs_60 ⟨hj2, hn2⟩ (by decide) rfl ?_
  refine zw_icmp_ge (tg := 58) dX8_typeOf_29 (by decide) rfl (fun c => ?_) (fun c => ?_)
  · have K := K.1 c
    refine zw_iload_n 2 dX8_typeOf_58 rfl rfl rfl ?_
    exact zw_ireturn (ty := .int) dX8_typeOf_59 rfl rfl (Nat.le_refl 0) (Nat.le_refl 0) ⟨_, rfl, rfl, K⟩
  · have K := K.2 c
    refine zw_iload_n 2 dX8_typeOf_32 rfl rfl rfl ?_
    refine zw_iconst (v := (1 : Int32)) dX8_typeOf_33 (by decide) rfl ?_
    refine zw_iconst (v := (3 : Int32)) dX8_typeOf_34 (by decide) rfl ?_
    refine zw_aload_n 0 dX8_typeOf_35 rfl rfl rfl ?_
    refine zw_aload_n 0 dX8_typeOf_36 rfl rfl rfl ?_
    refine zw_iload_n 1 dX8_typeOf_37 rfl rfl rfl ?_
    obtain ⟨q3, ct, K⟩ := K
    refine zw_callV (n := 1) (As := [.int v1]) (rest := [.ref 56, .int (3 : Int32), .int (1 : Int32), .int v3]) ct my_X8_held rfl rfl k_X8_128 i_X8_held s_X8_held zs_56 rfl dX8_typeOf_38 (by decide) (Nat.le_of_ble_eq_true rfl) (Nat.le_refl 0) (Nat.le_refl 0) rfl (fun r s1 h3 hq => ?_)
    obtain ⟨x3, rfl, rfl, hq⟩ := hq
    have K := K x3 h3 hq
    refine zw.st (st' := [.int x3, .ref 56, .int (3 : Int32), .int (1 : Int32), .int v3]) rfl ?_
    refine zw_iload 3 dX8_typeOf_41 rfl rfl ?_
    obtain ⟨q4, ct, K⟩ := K
    refine zw_callV (n := 2) (As := [.int x3, .int v4]) (rest := [.int (3 : Int32), .int (1 : Int32), .int v3]) ct my_X8_sizeOf rfl rfl k_X8_76 i_X8_sizeOf s_X8_sizeOf zs_56 rfl dX8_typeOf_43 (by decide) (Nat.le_of_ble_eq_true rfl) (Nat.le_refl 0) (Nat.le_refl 0) rfl (fun r s1 h4 hq => ?_)
    obtain ⟨x4, rfl, rfl, hq⟩ := hq
    have K := K x4 h4 hq
    refine zw.st (st' := [.int x4, .int (3 : Int32), .int (1 : Int32), .int v3]) rfl ?_
    refine zw_iconst (v := (1 : Int32)) dX8_typeOf_46 (by decide) rfl ?_
    refine zw_isub dX8_typeOf_47 rfl ?_
    refine zw_imul dX8_typeOf_48 rfl ?_
    refine zw_ishl dX8_typeOf_49 rfl ?_
    refine zw_iadd dX8_typeOf_50 rfl ?_
    refine zw_istore_n dX8_typeOf_51 rfl (by decide) rfl rfl ?_
    refine zw_iinc (v := (v4 + (1 : Int32))) 3 dX8_typeOf_52 rfl rfl (by decide) rfl rfl ?_
    refine zw_goto (np := 17) dX8_typeOf_55 (by decide) ?_
    exact zw.sub [2, 3, 1, 0] rfl K

set_option maxRecDepth 100000 in
set_option maxHeartbeats 4000000 in
theorem rX8_crossings_0 {q : Int32 → zw_H → Prop} {h : zw_H} {v1 : Int32} (K : (∃ q1 : Int32 → zw_H → Prop, zcI 2 mX8_wrong [.ref 56, .int v1] h q1 ∧ (∀ (x1 : Int32) (h1 : zw_H), q1 x1 h1 → ((x1 = 0 → zwI 3 mX8_crossings q 17 [(0, .ref 56), (1, .int v1), (3, .int (0 : Int32)), (4, .int (0 : Int32))] [] h1) ∧ (¬ x1 = 0 → q x1 h1))))) : zwI 3 mX8_crossings q 0 [(0, .ref 56), (1, .int v1)] [] h := by
  refine zw_aload_n 0 dX8_crossings_0 rfl rfl rfl ?_
  refine zw_iload_n 1 dX8_crossings_1 rfl rfl rfl ?_
  obtain ⟨q1, ct, K⟩ := K
  refine zw_callV (n := 1) (As := [.int v1]) (rest := []) ct my_X8_wrong rfl rfl k_X8_131 i_X8_wrong s_X8_wrong zs_56 rfl dX8_crossings_2 (by decide) (Nat.le_of_ble_eq_true rfl) (Nat.le_refl 0) (Nat.le_refl 0) rfl (fun r s1 h1 hq => ?_)
  obtain ⟨x1, rfl, rfl, hq⟩ := hq
  have K := K x1 h1 hq
  refine zw.st (st' := [.int x1]) rfl ?_
  refine zw_istore_n dX8_crossings_5 rfl (by decide) rfl rfl ?_
  refine zw_iload_n 0 dX8_crossings_6 rfl rfl rfl ?_
  refine zw_if_eq (tg := 12) dX8_crossings_7 (by decide) rfl (fun c => ?_) (fun c => ?_)
  · have K := K.1 c
    refine zw_iconst (v := (0 : Int32)) dX8_crossings_12 (by decide) rfl ?_
    refine zw_istore_n dX8_crossings_13 rfl (by decide) rfl rfl ?_
    refine zw_iconst (v := (0 : Int32)) dX8_crossings_14 (by decide) rfl ?_
    refine zw_istore dX8_crossings_15 (by decide) rfl rfl ?_
    exact zw.sub [3, 4, 1, 0] rfl K
  · have K := K.2 c
    refine zw_iload_n 0 dX8_crossings_10 rfl rfl rfl ?_
    exact zw_ireturn (ty := .int) dX8_crossings_11 rfl rfl (Nat.le_refl 0) (Nat.le_refl 0) ⟨_, rfl, rfl, K⟩

set_option maxRecDepth 100000 in
set_option maxHeartbeats 4000000 in
theorem rX8_crossings_17 {q : Int32 → zw_H → Prop} {h : zw_H} {v1 v3 v4 : Int32} (K : (∃ q1 : Int32 → zw_H → Prop, zcI 0 mX8_held [.ref 56, .int v1] h q1 ∧ (∀ (x1 : Int32) (h1 : zw_H), q1 x1 h1 → (∃ j2 : Nat, x1 = nI j2 ∧ j2 < 203 ∧ (((h1.1 60 j2) ≤ v4 → q v3 h1) ∧ (¬ (h1.1 60 j2) ≤ v4 → zwI 3 mX8_crossings q 38 [(0, .ref 56), (1, .int v1), (3, .int v3), (4, .int v4), (5, .int (v4 + (1 : Int32)))] [] h1)))))) : zwI 3 mX8_crossings q 17 [(0, .ref 56), (1, .int v1), (3, .int v3), (4, .int v4)] [] h := by
  refine zw_iload 3 dX8_crossings_17 rfl rfl ?_
  refine zw_aload_n 0 dX8_crossings_19 rfl rfl rfl ?_
  refine zw_getR f_X8_19 dX8_crossings_20 zs_56 rfl rfl ?_
  refine zw_aload_n 0 dX8_crossings_23 rfl rfl rfl ?_
  refine zw_iload_n 1 dX8_crossings_24 rfl rfl rfl ?_
  obtain ⟨q1, ct, K⟩ := K
  refine zw_callV (n := 1) (As := [.int v1]) (rest := [.ref 60, .int v4]) ct my_X8_held rfl rfl k_X8_128 i_X8_held s_X8_held zs_56 rfl dX8_crossings_25 (by decide) (Nat.le_of_ble_eq_true rfl) (Nat.le_refl 0) (Nat.le_refl 0) rfl (fun r s1 h1 hq => ?_)
  obtain ⟨x1, rfl, rfl, hq⟩ := hq
  have K := K x1 h1 hq
  refine zw.st (st' := [.int x1, .ref 60, .int v4]) rfl ?_
  obtain ⟨j2, hj2, hn2, K⟩ := K
  refine zw_iald j2 dX8_crossings_28 zs_60 ⟨hj2, hn2⟩ (by decide) rfl ?_
  refine zw_icmp_ge (tg := 89) dX8_crossings_29 (by decide) rfl (fun c => ?_) (fun c => ?_)
  · have K := K.1 c
    refine zw_iload_n 2 dX8_crossings_89 rfl rfl rfl ?_
    exact zw_ireturn (ty := .int) dX8_crossings_90 rfl rfl (Nat.le_refl 0) (Nat.le_refl 0) ⟨_, rfl, rfl, K⟩
  · have K := K.2 c
    refine zw_iload 3 dX8_crossings_32 rfl rfl ?_
    refine zw_iconst (v := (1 : Int32)) dX8_crossings_34 (by decide) rfl ?_
    refine zw_iadd dX8_crossings_35 rfl ?_
    refine zw_istore dX8_crossings_36 (by decide) rfl rfl ?_
    exact zw.sub [1, 2, 3, 4, 0] rfl K

set_option maxRecDepth 100000 in
set_option maxHeartbeats 4000000 in
theorem rX8_crossings_38 {q : Int32 → zw_H → Prop} {h : zw_H} {v1 v3 v4 v5 : Int32} (K : (∃ q1 : Int32 → zw_H → Prop, zcI 0 mX8_held [.ref 56, .int v1] h q1 ∧ (∀ (x1 : Int32) (h1 : zw_H), q1 x1 h1 → (∃ j2 : Nat, x1 = nI j2 ∧ j2 < 203 ∧ (((h1.1 60 j2) ≤ v5 → zwI 3 mX8_crossings q 17 [(0, .ref 56), (1, .int v1), (3, .int v3), (4, .int (v4 + (1 : Int32)))] [] h1) ∧ (¬ (h1.1 60 j2) ≤ v5 → (∃ q3 : Int32 → zw_H → Prop, zcI 0 mX8_held [.ref 56, .int v1] h1 q3 ∧ (∀ (x3 : Int32) (h3 : zw_H), q3 x3 h3 → (∃ q4 : Int32 → zw_H → Prop, zcI 1 mX8_areCrossing [.ref 56, .int x3, .int v4, .int v5] h3 q4 ∧ (∀ (x4 : Int32) (h4 : zw_H), q4 x4 h4 → ((x4 = 0 → zwI 3 mX8_crossings q 38 [(0, .ref 56), (1, .int v1), (3, .int (v3 + (0 : Int32))), (4, .int v4), (5, .int (v5 + (1 : Int32)))] [] h4) ∧ (¬ x4 = 0 → zwI 3 mX8_crossings q 38 [(0, .ref 56), (1, .int v1), (3, .int (v3 + (1 : Int32))), (4, .int v4), (5, .int (v5 + (1 : Int32)))] [] h4)))))))))))) : zwI 3 mX8_crossings q 38 [(0, .ref 56), (1, .int v1), (3, .int v3), (4, .int v4), (5, .int v5)] [] h := by
  refine zw_iload 4 dX8_crossings_38 rfl rfl ?_
  refine zw_aload_n 0 dX8_crossings_40 rfl rfl rfl ?_
  refine zw_getR f_X8_19 dX8_crossings_41 zs_56 rfl rfl ?_
  refine zw_aload_n 0 dX8_crossings_44 rfl rfl rfl ?_
  refine zw_iload_n 1 dX8_crossings_45 rfl rfl rfl ?_
  obtain ⟨q1, ct, K⟩ := K
  refine zw_callV (n := 1) (As := [.int v1]) (rest := [.ref 60, .int v5]) ct my_X8_held rfl rfl k_X8_128 i_X8_held s_X8_held zs_56 rfl dX8_crossings_46 (by decide) (Nat.le_of_ble_eq_true rfl) (Nat.le_refl 0) (Nat.le_refl 0) rfl (fun r s1 h1 hq => ?_)
  obtain ⟨x1, rfl, rfl, hq⟩ := hq
  have K := K x1 h1 hq
  refine zw.st (st' := [.int x1, .ref 60, .int v5]) rfl ?_
  obtain ⟨j2, hj2, hn2, K⟩ := K
  refine zw_iald j2 dX8_crossings_49 zs_60 ⟨hj2, hn2⟩ (by decide) rfl ?_
  refine zw_icmp_ge (tg := 83) dX8_crossings_50 (by decide) rfl (fun c => ?_) (fun c => ?_)
  · have K := K.1 c
    refine zw_iinc (v := (v4 + (1 : Int32))) 3 dX8_crossings_83 rfl rfl (by decide) rfl rfl ?_
    refine zw_goto (np := 17) dX8_crossings_86 (by decide) ?_
    exact zw.sub [1, 2, 3, 0] rfl K
  · have K := K.2 c
    refine zw_iload_n 2 dX8_crossings_53 rfl rfl rfl ?_
    refine zw_aload_n 0 dX8_crossings_54 rfl rfl rfl ?_
    refine zw_aload_n 0 dX8_crossings_55 rfl rfl rfl ?_
    refine zw_iload_n 1 dX8_crossings_56 rfl rfl rfl ?_
    obtain ⟨q3, ct, K⟩ := K
    refine zw_callV (n := 1) (As := [.int v1]) (rest := [.ref 56, .int v3]) ct my_X8_held rfl rfl k_X8_128 i_X8_held s_X8_held zs_56 rfl dX8_crossings_57 (by decide) (Nat.le_of_ble_eq_true rfl) (Nat.le_refl 0) (Nat.le_refl 0) rfl (fun r s1 h3 hq => ?_)
    obtain ⟨x3, rfl, rfl, hq⟩ := hq
    have K := K x3 h3 hq
    refine zw.st (st' := [.int x3, .ref 56, .int v3]) rfl ?_
    refine zw_iload 3 dX8_crossings_60 rfl rfl ?_
    refine zw_iload 4 dX8_crossings_62 rfl rfl ?_
    obtain ⟨q4, ct, K⟩ := K
    refine zw_callV (n := 3) (As := [.int x3, .int v4, .int v5]) (rest := [.int v3]) ct my_X8_areCrossing rfl rfl k_X8_69 i_X8_areCrossing s_X8_areCrossing zs_56 rfl dX8_crossings_64 (by decide) (Nat.le_of_ble_eq_true rfl) (Nat.le_refl 0) (Nat.le_refl 0) rfl (fun r s1 h4 hq => ?_)
    obtain ⟨x4, rfl, rfl, hq⟩ := hq
    have K := K x4 h4 hq
    refine zw.st (st' := [.int x4, .int v3]) rfl ?_
    refine zw_if_eq (tg := 74) dX8_crossings_67 (by decide) rfl (fun c => ?_) (fun c => ?_)
    · have K := K.1 c
      refine zw_iconst (v := (0 : Int32)) dX8_crossings_74 (by decide) rfl ?_
      refine zw_iadd dX8_crossings_75 rfl ?_
      refine zw_istore_n dX8_crossings_76 rfl (by decide) rfl rfl ?_
      refine zw_iinc (v := (v5 + (1 : Int32))) 4 dX8_crossings_77 rfl rfl (by decide) rfl rfl ?_
      refine zw_goto (np := 38) dX8_crossings_80 (by decide) ?_
      exact zw.sub [2, 3, 1, 4, 0] rfl K
    · have K := K.2 c
      refine zw_iconst (v := (1 : Int32)) dX8_crossings_70 (by decide) rfl ?_
      refine zw_goto (np := 75) dX8_crossings_71 (by decide) ?_
      refine zw_iadd dX8_crossings_75 rfl ?_
      refine zw_istore_n dX8_crossings_76 rfl (by decide) rfl rfl ?_
      refine zw_iinc (v := (v5 + (1 : Int32))) 4 dX8_crossings_77 rfl rfl (by decide) rfl rfl ?_
      refine zw_goto (np := 38) dX8_crossings_80 (by decide) ?_
      exact zw.sub [2, 3, 1, 4, 0] rfl K

set_option maxRecDepth 100000 in
set_option maxHeartbeats 4000000 in
theorem rX8_index_0 {q : Int32 → zw_H → Prop} {h : zw_H} {v1 : Int32} (K : (∃ q1 : Int32 → zw_H → Prop, zcI 2 mX8_wrong [.ref 56, .int v1] h q1 ∧ (∀ (x1 : Int32) (h1 : zw_H), q1 x1 h1 → ((x1 = 0 → (∃ q2 : Int32 → zw_H → Prop, zcI 0 mX8_held [.ref 56, .int v1] h1 q2 ∧ (∀ (x2 : Int32) (h2 : zw_H), q2 x2 h2 → (∃ j3 : Nat, x2 = nI j3 ∧ j3 < 203 ∧ q (h2.1 61 j3) h2)))) ∧ (¬ x1 = 0 → q x1 h1))))) : zwI 3 mX8_index q 0 [(0, .ref 56), (1, .int v1)] [] h := by
  refine zw_aload_n 0 dX8_index_0 rfl rfl rfl ?_
  refine zw_iload_n 1 dX8_index_1 rfl rfl rfl ?_
  obtain ⟨q1, ct, K⟩ := K
  refine zw_callV (n := 1) (As := [.int v1]) (rest := []) ct my_X8_wrong rfl rfl k_X8_131 i_X8_wrong s_X8_wrong zs_56 rfl dX8_index_2 (by decide) (Nat.le_of_ble_eq_true rfl) (Nat.le_refl 0) (Nat.le_refl 0) rfl (fun r s1 h1 hq => ?_)
  obtain ⟨x1, rfl, rfl, hq⟩ := hq
  have K := K x1 h1 hq
  refine zw.st (st' := [.int x1]) rfl ?_
  refine zw_istore_n dX8_index_5 rfl (by decide) rfl rfl ?_
  refine zw_iload_n 0 dX8_index_6 rfl rfl rfl ?_
  refine zw_if_eq (tg := 14) dX8_index_7 (by decide) rfl (fun c => ?_) (fun c => ?_)
  · have K := K.1 c
    refine zw_aload_n 1 dX8_index_14 rfl rfl rfl ?_
    refine zw_getR f_X8_22 dX8_index_15 zs_56 rfl rfl ?_
    refine zw_aload_n 1 dX8_index_18 rfl rfl rfl ?_
    refine zw_iload_n 2 dX8_index_19 rfl rfl rfl ?_
    obtain ⟨q2, ct, K⟩ := K
    refine zw_callV (n := 1) (As := [.int v1]) (rest := [.ref 61]) ct my_X8_held rfl rfl k_X8_128 i_X8_held s_X8_held zs_56 rfl dX8_index_20 (by decide) (Nat.le_of_ble_eq_true rfl) (Nat.le_refl 0) (Nat.le_refl 0) rfl (fun r s1 h2 hq => ?_)
    obtain ⟨x2, rfl, rfl, hq⟩ := hq
    have K := K x2 h2 hq
    refine zw.st (st' := [.int x2, .ref 61]) rfl ?_
    obtain ⟨j3, hj3, hn3, K⟩ := K
    refine zw_iald j3 dX8_index_23 zs_61 ⟨hj3, hn3⟩ (by decide) rfl ?_
    exact zw_ireturn (ty := .int) dX8_index_24 rfl rfl (Nat.le_refl 0) (Nat.le_refl 0) ⟨_, rfl, rfl, K⟩
  · have K := K.2 c
    refine zw_iload_n 0 dX8_index_10 rfl rfl rfl ?_
    refine zw_goto (np := 24) dX8_index_11 (by decide) ?_
    exact zw_ireturn (ty := .int) dX8_index_24 rfl rfl (Nat.le_refl 0) (Nat.le_refl 0) ⟨_, rfl, rfl, K⟩

set_option maxRecDepth 100000 in
set_option maxHeartbeats 4000000 in
theorem rX8_why_0 {q : Int32 → zw_H → Prop} {h : zw_H} {v1 : Int32} (K : (∃ q1 : Int32 → zw_H → Prop, zcI 2 mX8_wrong [.ref 56, .int v1] h q1 ∧ (∀ (x1 : Int32) (h1 : zw_H), q1 x1 h1 → ((x1 = 0 → (∃ q2 : Int32 → zw_H → Prop, zcI 0 mX8_held [.ref 56, .int v1] h1 q2 ∧ (∀ (x2 : Int32) (h2 : zw_H), q2 x2 h2 → (∃ q3 : Int32 → zw_H → Prop, zcI 3 mX8_reason [.ref 56, .int x2] h2 q3 ∧ (∀ (x3 : Int32) (h3 : zw_H), q3 x3 h3 → q x3 h3))))) ∧ (¬ x1 = 0 → q x1 h1))))) : zwI 4 mX8_why q 0 [(0, .ref 56), (1, .int v1)] [] h := by
  refine zw_aload_n 0 dX8_why_0 rfl rfl rfl ?_
  refine zw_iload_n 1 dX8_why_1 rfl rfl rfl ?_
  obtain ⟨q1, ct, K⟩ := K
  refine zw_callV (n := 1) (As := [.int v1]) (rest := []) ct my_X8_wrong rfl rfl k_X8_131 i_X8_wrong s_X8_wrong zs_56 rfl dX8_why_2 (by decide) (Nat.le_of_ble_eq_true rfl) (Nat.le_refl 0) (Nat.le_refl 0) rfl (fun r s1 h1 hq => ?_)
  obtain ⟨x1, rfl, rfl, hq⟩ := hq
  have K := K x1 h1 hq
  refine zw.st (st' := [.int x1]) rfl ?_
  refine zw_istore_n dX8_why_5 rfl (by decide) rfl rfl ?_
  refine zw_iload_n 0 dX8_why_6 rfl rfl rfl ?_
  refine zw_if_eq (tg := 14) dX8_why_7 (by decide) rfl (fun c => ?_) (fun c => ?_)
  · have K := K.1 c
    refine zw_aload_n 1 dX8_why_14 rfl rfl rfl ?_
    refine zw_aload_n 1 dX8_why_15 rfl rfl rfl ?_
    refine zw_iload_n 2 dX8_why_16 rfl rfl rfl ?_
    obtain ⟨q2, ct, K⟩ := K
    refine zw_callV (n := 1) (As := [.int v1]) (rest := [.ref 56]) ct my_X8_held rfl rfl k_X8_128 i_X8_held s_X8_held zs_56 rfl dX8_why_17 (by decide) (Nat.le_of_ble_eq_true rfl) (Nat.le_refl 0) (Nat.le_refl 0) rfl (fun r s1 h2 hq => ?_)
    obtain ⟨x2, rfl, rfl, hq⟩ := hq
    have K := K x2 h2 hq
    refine zw.st (st' := [.int x2, .ref 56]) rfl ?_
    obtain ⟨q3, ct, K⟩ := K
    refine zw_callV (n := 1) (As := [.int x2]) (rest := []) ct my_X8_reason rfl rfl k_X8_62 i_X8_reason s_X8_reason zs_56 rfl dX8_why_20 (by decide) (Nat.le_of_ble_eq_true rfl) (Nat.le_refl 0) (Nat.le_refl 0) rfl (fun r s1 h3 hq => ?_)
    obtain ⟨x3, rfl, rfl, hq⟩ := hq
    have K := K x3 h3 hq
    refine zw.st (st' := [.int x3]) rfl ?_
    exact zw_ireturn (ty := .int) dX8_why_23 rfl rfl (Nat.le_refl 0) (Nat.le_refl 0) ⟨_, rfl, rfl, K⟩
  · have K := K.2 c
    refine zw_iload_n 0 dX8_why_10 rfl rfl rfl ?_
    refine zw_goto (np := 23) dX8_why_11 (by decide) ?_
    exact zw_ireturn (ty := .int) dX8_why_23 rfl rfl (Nat.le_refl 0) (Nat.le_refl 0) ⟨_, rfl, rfl, K⟩

set_option maxRecDepth 100000 in
set_option maxHeartbeats 4000000 in
theorem rX8_where_0 {q : Int32 → zw_H → Prop} {h : zw_H} {v1 : Int32} (K : (∃ q1 : Int32 → zw_H → Prop, zcI 2 mX8_wrong [.ref 56, .int v1] h q1 ∧ (∀ (x1 : Int32) (h1 : zw_H), q1 x1 h1 → ((x1 = 0 → (∃ q2 : Int32 → zw_H → Prop, zcI 0 mX8_held [.ref 56, .int v1] h1 q2 ∧ (∀ (x2 : Int32) (h2 : zw_H), q2 x2 h2 → (∃ q3 : Int32 → zw_H → Prop, zcI 4 mX8_placeOf [.ref 56, .int x2] h2 q3 ∧ (∀ (x3 : Int32) (h3 : zw_H), q3 x3 h3 → q x3 h3))))) ∧ (¬ x1 = 0 → q x1 h1))))) : zwI 5 mX8_where q 0 [(0, .ref 56), (1, .int v1)] [] h := by
  refine zw_aload_n 0 dX8_where_0 rfl rfl rfl ?_
  refine zw_iload_n 1 dX8_where_1 rfl rfl rfl ?_
  obtain ⟨q1, ct, K⟩ := K
  refine zw_callV (n := 1) (As := [.int v1]) (rest := []) ct my_X8_wrong rfl rfl k_X8_131 i_X8_wrong s_X8_wrong zs_56 rfl dX8_where_2 (by decide) (Nat.le_of_ble_eq_true rfl) (Nat.le_refl 0) (Nat.le_refl 0) rfl (fun r s1 h1 hq => ?_)
  obtain ⟨x1, rfl, rfl, hq⟩ := hq
  have K := K x1 h1 hq
  refine zw.st (st' := [.int x1]) rfl ?_
  refine zw_istore_n dX8_where_5 rfl (by decide) rfl rfl ?_
  refine zw_iload_n 0 dX8_where_6 rfl rfl rfl ?_
  refine zw_if_eq (tg := 14) dX8_where_7 (by decide) rfl (fun c => ?_) (fun c => ?_)
  · have K := K.1 c
    refine zw_aload_n 1 dX8_where_14 rfl rfl rfl ?_
    refine zw_aload_n 1 dX8_where_15 rfl rfl rfl ?_
    refine zw_iload_n 2 dX8_where_16 rfl rfl rfl ?_
    obtain ⟨q2, ct, K⟩ := K
    refine zw_callV (n := 1) (As := [.int v1]) (rest := [.ref 56]) ct my_X8_held rfl rfl k_X8_128 i_X8_held s_X8_held zs_56 rfl dX8_where_17 (by decide) (Nat.le_of_ble_eq_true rfl) (Nat.le_refl 0) (Nat.le_refl 0) rfl (fun r s1 h2 hq => ?_)
    obtain ⟨x2, rfl, rfl, hq⟩ := hq
    have K := K x2 h2 hq
    refine zw.st (st' := [.int x2, .ref 56]) rfl ?_
    obtain ⟨q3, ct, K⟩ := K
    refine zw_callV (n := 1) (As := [.int x2]) (rest := []) ct my_X8_placeOf rfl rfl k_X8_163 i_X8_placeOf s_X8_placeOf zs_56 rfl dX8_where_20 (by decide) (Nat.le_of_ble_eq_true rfl) (Nat.le_refl 0) (Nat.le_refl 0) rfl (fun r s1 h3 hq => ?_)
    obtain ⟨x3, rfl, rfl, hq⟩ := hq
    have K := K x3 h3 hq
    refine zw.st (st' := [.int x3]) rfl ?_
    exact zw_ireturn (ty := .int) dX8_where_23 rfl rfl (Nat.le_refl 0) (Nat.le_refl 0) ⟨_, rfl, rfl, K⟩
  · have K := K.2 c
    refine zw_iload_n 0 dX8_where_10 rfl rfl rfl ?_
    refine zw_goto (np := 23) dX8_where_11 (by decide) ?_
    exact zw_ireturn (ty := .int) dX8_where_23 rfl rfl (Nat.le_refl 0) (Nat.le_refl 0) ⟨_, rfl, rfl, K⟩

set_option maxRecDepth 100000 in
set_option maxHeartbeats 4000000 in
theorem rX8_count_0 {q : Int32 → zw_H → Prop} {h : zw_H} (K : q (h.1 56 8) h) : zwI 0 mX8_count q 0 [(0, .ref 56)] [] h := by
  refine zw_aload_n 0 dX8_count_0 rfl rfl rfl ?_
  refine zw_getI f_X8_59 dX8_count_1 zs_56 rfl rfl ?_
  exact zw_ireturn (ty := .int) dX8_count_4 rfl rfl (Nat.le_refl 0) (Nat.le_refl 0) ⟨_, rfl, rfl, K⟩

set_option maxRecDepth 100000 in
set_option maxHeartbeats 4000000 in
theorem rX8_manyWith_0 {q : Int32 → zw_H → Prop} {h : zw_H} {v1 : Int32} (K : zwI 1 mX8_manyWith q 4 [(0, .ref 56), (1, .int v1), (2, .int (0 : Int32)), (3, .int (0 : Int32))] [] h) : zwI 1 mX8_manyWith q 0 [(0, .ref 56), (1, .int v1)] [] h := by
  refine zw_iconst (v := (0 : Int32)) dX8_manyWith_0 (by decide) rfl ?_
  refine zw_istore_n dX8_manyWith_1 rfl (by decide) rfl rfl ?_
  refine zw_iconst (v := (0 : Int32)) dX8_manyWith_2 (by decide) rfl ?_
  refine zw_istore_n dX8_manyWith_3 rfl (by decide) rfl rfl ?_
  exact zw.sub [2, 3, 1, 0] rfl K

set_option maxRecDepth 100000 in
set_option maxHeartbeats 4000000 in
theorem rX8_manyWith_4 {q : Int32 → zw_H → Prop} {h : zw_H} {v1 v2 v3 : Int32} (K : (((h.1 56 7) ≤ v3 → q v2 h) ∧ (¬ (h.1 56 7) ≤ v3 → (∃ q1 : Int32 → zw_H → Prop, zcI 0 mX8_isAdmitted [.ref 56, .int v3] h q1 ∧ (∀ (x1 : Int32) (h1 : zw_H), q1 x1 h1 → ((x1 = 0 → zwI 1 mX8_manyWith q 4 [(0, .ref 56), (1, .int v1), (2, .int (v2 + (0 : Int32))), (3, .int (v3 + (1 : Int32)))] [] h1) ∧ (¬ x1 = 0 → (∃ j2 : Nat, v3 = nI j2 ∧ j2 < 203 ∧ ((¬ (h1.1 60 j2) = v1 → zwI 1 mX8_manyWith q 4 [(0, .ref 56), (1, .int v1), (2, .int (v2 + (0 : Int32))), (3, .int (v3 + (1 : Int32)))] [] h1) ∧ ((h1.1 60 j2) = v1 → zwI 1 mX8_manyWith q 4 [(0, .ref 56), (1, .int v1), (2, .int (v2 + (1 : Int32))), (3, .int (v3 + (1 : Int32)))] [] h1)))))))))) : zwI 1 mX8_manyWith q 4 [(0, .ref 56), (1, .int v1), (2, .int v2), (3, .int v3)] [] h := by
  refine zw_iload_n 3 dX8_manyWith_4 rfl rfl rfl ?_
  refine zw_aload_n 0 dX8_manyWith_5 rfl rfl rfl ?_
  refine zw_getI f_X8_52 dX8_manyWith_6 zs_56 rfl rfl ?_
  refine zw_icmp_ge (tg := 44) dX8_manyWith_9 (by decide) rfl (fun c => ?_) (fun c => ?_)
  · have K := K.1 c
    refine zw_iload_n 2 dX8_manyWith_44 rfl rfl rfl ?_
    exact zw_ireturn (ty := .int) dX8_manyWith_45 rfl rfl (Nat.le_refl 0) (Nat.le_refl 0) ⟨_, rfl, rfl, K⟩
  · have K := K.2 c
    refine zw_iload_n 2 dX8_manyWith_12 rfl rfl rfl ?_
    refine zw_aload_n 0 dX8_manyWith_13 rfl rfl rfl ?_
    refine zw_iload_n 3 dX8_manyWith_14 rfl rfl rfl ?_
    obtain ⟨q1, ct, K⟩ := K
    refine zw_callV (n := 1) (As := [.int v3]) (rest := [.int v2]) ct my_X8_isAdmitted rfl rfl k_X8_150 i_X8_isAdmitted s_X8_isAdmitted zs_56 rfl dX8_manyWith_15 (by decide) (Nat.le_of_ble_eq_true rfl) (Nat.le_refl 0) (Nat.le_refl 0) rfl (fun r s1 h1 hq => ?_)
    obtain ⟨x1, rfl, rfl, hq⟩ := hq
    have K := K x1 h1 hq
    refine zw.st (st' := [.int x1, .int v2]) rfl ?_
    refine zw_if_eq (tg := 35) dX8_manyWith_18 (by decide) rfl (fun c => ?_) (fun c => ?_)
    · have K := K.1 c
      refine zw_iconst (v := (0 : Int32)) dX8_manyWith_35 (by decide) rfl ?_
      refine zw_iadd dX8_manyWith_36 rfl ?_
      refine zw_istore_n dX8_manyWith_37 rfl (by decide) rfl rfl ?_
      refine zw_iinc (v := (v3 + (1 : Int32))) 3 dX8_manyWith_38 rfl rfl (by decide) rfl rfl ?_
      refine zw_goto (np := 4) dX8_manyWith_41 (by decide) ?_
      exact zw.sub [2, 3, 1, 0] rfl K
    · have K := K.2 c
      refine zw_aload_n 0 dX8_manyWith_21 rfl rfl rfl ?_
      refine zw_getR f_X8_19 dX8_manyWith_22 zs_56 rfl rfl ?_
      refine zw_iload_n 3 dX8_manyWith_25 rfl rfl rfl ?_
      obtain ⟨j2, hj2, hn2, K⟩ := K
      refine zw_iald j2 dX8_manyWith_26 zs_60 ⟨hj2, hn2⟩ (by decide) rfl ?_
      refine zw_iload_n 1 dX8_manyWith_27 rfl rfl rfl ?_
      refine zw_icmp_ne (tg := 35) dX8_manyWith_28 (by decide) rfl (fun c => ?_) (fun c => ?_)
      · have K := K.1 c
        refine zw_iconst (v := (0 : Int32)) dX8_manyWith_35 (by decide) rfl ?_
        refine zw_iadd dX8_manyWith_36 rfl ?_
        refine zw_istore_n dX8_manyWith_37 rfl (by decide) rfl rfl ?_
        refine zw_iinc (v := (v3 + (1 : Int32))) 3 dX8_manyWith_38 rfl rfl (by decide) rfl rfl ?_
        refine zw_goto (np := 4) dX8_manyWith_41 (by decide) ?_
        exact zw.sub [2, 3, 1, 0] rfl K
      · have K := K.2 c
        refine zw_iconst (v := (1 : Int32)) dX8_manyWith_31 (by decide) rfl ?_
        refine zw_goto (np := 36) dX8_manyWith_32 (by decide) ?_
        refine zw_iadd dX8_manyWith_36 rfl ?_
        refine zw_istore_n dX8_manyWith_37 rfl (by decide) rfl rfl ?_
        refine zw_iinc (v := (v3 + (1 : Int32))) 3 dX8_manyWith_38 rfl rfl (by decide) rfl rfl ?_
        refine zw_goto (np := 4) dX8_manyWith_41 (by decide) ?_
        exact zw.sub [2, 3, 1, 0] rfl K

set_option maxRecDepth 100000 in
set_option maxHeartbeats 4000000 in
theorem rX8_countWith_0 {q : Int32 → zw_H → Prop} {h : zw_H} {v1 : Int32} (K : (∃ q1 : Int32 → zw_H → Prop, zcI 0 mX8_in [.int v1, .int (1 : Int32), .int (6 : Int32)] h q1 ∧ (∀ (x1 : Int32) (h1 : zw_H), q1 x1 h1 → ((x1 = 0 → q (-1 : Int32) h1) ∧ (¬ x1 = 0 → (∃ q2 : Int32 → zw_H → Prop, zcI 1 mX8_manyWith [.ref 56, .int v1] h1 q2 ∧ (∀ (x2 : Int32) (h2 : zw_H), q2 x2 h2 → q x2 h2))))))) : zwI 2 mX8_countWith q 0 [(0, .ref 56), (1, .int v1)] [] h := by
  refine zw_iload_n 1 dX8_countWith_0 rfl rfl rfl ?_
  refine zw_iconst (v := (1 : Int32)) dX8_countWith_1 (by decide) rfl ?_
  refine zw_bipush (v := (6 : Int32)) dX8_countWith_2 (by decide) rfl ?_
  obtain ⟨q1, ct, K⟩ := K
  refine zw_callS (n := 3) (As := [.int v1, .int (1 : Int32), .int (6 : Int32)]) (rest := []) ct my_X8_in rfl rfl k_X8_96 t_X8_in dX8_countWith_4 (by decide) (Nat.le_of_ble_eq_true rfl) (Nat.le_refl 0) (Nat.le_refl 0) rfl (fun r s1 h1 hq => ?_)
  obtain ⟨x1, rfl, rfl, hq⟩ := hq
  have K := K x1 h1 hq
  refine zw.st (st' := [.int x1]) rfl ?_
  refine zw_if_eq (tg := 18) dX8_countWith_7 (by decide) rfl (fun c => ?_) (fun c => ?_)
  · have K := K.1 c
    refine zw_iconst (v := (-1 : Int32)) dX8_countWith_18 (by decide) rfl ?_
    exact zw_ireturn (ty := .int) dX8_countWith_19 rfl rfl (Nat.le_refl 0) (Nat.le_refl 0) ⟨_, rfl, rfl, K⟩
  · have K := K.2 c
    refine zw_aload_n 0 dX8_countWith_10 rfl rfl rfl ?_
    refine zw_iload_n 1 dX8_countWith_11 rfl rfl rfl ?_
    obtain ⟨q2, ct, K⟩ := K
    refine zw_callV (n := 1) (As := [.int v1]) (rest := []) ct my_X8_manyWith rfl rfl k_X8_166 i_X8_manyWith s_X8_manyWith zs_56 rfl dX8_countWith_12 (by decide) (Nat.le_of_ble_eq_true rfl) (Nat.le_refl 0) (Nat.le_refl 0) rfl (fun r s1 h2 hq => ?_)
    obtain ⟨x2, rfl, rfl, hq⟩ := hq
    have K := K x2 h2 hq
    refine zw.st (st' := [.int x2]) rfl ?_
    refine zw_goto (np := 19) dX8_countWith_15 (by decide) ?_
    exact zw_ireturn (ty := .int) dX8_countWith_19 rfl rfl (Nat.le_refl 0) (Nat.le_refl 0) ⟨_, rfl, rfl, K⟩

set_option maxRecDepth 100000 in
set_option maxHeartbeats 4000000 in
theorem rX8_below_0 {q : Int32 → zw_H → Prop} {h : zw_H} {v1 v2 : Int32} (K : (∃ q1 : Int32 → zw_H → Prop, zcI 2 mX8_wrongOf [.ref 56, .int v1, .int v2] h q1 ∧ (∀ (x1 : Int32) (h1 : zw_H), q1 x1 h1 → ((x1 = 0 → (∃ q2 : Int32 → zw_H → Prop, zcI 0 mX8_held [.ref 56, .int v1] h1 q2 ∧ (∀ (x2 : Int32) (h2 : zw_H), q2 x2 h2 → (∃ q3 : Int32 → zw_H → Prop, zcI 0 mX8_held [.ref 56, .int v2] h2 q3 ∧ (∀ (x3 : Int32) (h3 : zw_H), q3 x3 h3 → (∃ q4 : Int32 → zw_H → Prop, zcI 1 mX8_isBelow [.ref 56, .int x2, .int x3] h3 q4 ∧ (∀ (x4 : Int32) (h4 : zw_H), q4 x4 h4 → ((x4 = 0 → q (0 : Int32) h4) ∧ (¬ x4 = 0 → q (1 : Int32) h4))))))))) ∧ (¬ x1 = 0 → q x1 h1))))) : zwI 3 mX8_below q 0 [(0, .ref 56), (1, .int v1), (2, .int v2)] [] h := by
  refine zw_aload_n 0 dX8_below_0 rfl rfl rfl ?_
  refine zw_iload_n 1 dX8_below_1 rfl rfl rfl ?_
  refine zw_iload_n 2 dX8_below_2 rfl rfl rfl ?_
  obtain ⟨q1, ct, K⟩ := K
  refine zw_callV (n := 2) (As := [.int v1, .int v2]) (rest := []) ct my_X8_wrongOf rfl rfl k_X8_134 i_X8_wrongOf s_X8_wrongOf zs_56 rfl dX8_below_3 (by decide) (Nat.le_of_ble_eq_true rfl) (Nat.le_refl 0) (Nat.le_refl 0) rfl (fun r s1 h1 hq => ?_)
  obtain ⟨x1, rfl, rfl, hq⟩ := hq
  have K := K x1 h1 hq
  refine zw.st (st' := [.int x1]) rfl ?_
  refine zw_istore_n dX8_below_6 rfl (by decide) rfl rfl ?_
  refine zw_iload_n 0 dX8_below_7 rfl rfl rfl ?_
  refine zw_if_eq (tg := 15) dX8_below_8 (by decide) rfl (fun c => ?_) (fun c => ?_)
  · have K := K.1 c
    refine zw_aload_n 1 dX8_below_15 rfl rfl rfl ?_
    refine zw_aload_n 1 dX8_below_16 rfl rfl rfl ?_
    refine zw_iload_n 2 dX8_below_17 rfl rfl rfl ?_
    obtain ⟨q2, ct, K⟩ := K
    refine zw_callV (n := 1) (As := [.int v1]) (rest := [.ref 56]) ct my_X8_held rfl rfl k_X8_128 i_X8_held s_X8_held zs_56 rfl dX8_below_18 (by decide) (Nat.le_of_ble_eq_true rfl) (Nat.le_refl 0) (Nat.le_refl 0) rfl (fun r s1 h2 hq => ?_)
    obtain ⟨x2, rfl, rfl, hq⟩ := hq
    have K := K x2 h2 hq
    refine zw.st (st' := [.int x2, .ref 56]) rfl ?_
    refine zw_aload_n 1 dX8_below_21 rfl rfl rfl ?_
    refine zw_iload_n 3 dX8_below_22 rfl rfl rfl ?_
    obtain ⟨q3, ct, K⟩ := K
    refine zw_callV (n := 1) (As := [.int v2]) (rest := [.int x2, .ref 56]) ct my_X8_held rfl rfl k_X8_128 i_X8_held s_X8_held zs_56 rfl dX8_below_23 (by decide) (Nat.le_of_ble_eq_true rfl) (Nat.le_refl 0) (Nat.le_refl 0) rfl (fun r s1 h3 hq => ?_)
    obtain ⟨x3, rfl, rfl, hq⟩ := hq
    have K := K x3 h3 hq
    refine zw.st (st' := [.int x3, .int x2, .ref 56]) rfl ?_
    obtain ⟨q4, ct, K⟩ := K
    refine zw_callV (n := 2) (As := [.int x2, .int x3]) (rest := []) ct my_X8_isBelow rfl rfl k_X8_89 i_X8_isBelow s_X8_isBelow zs_56 rfl dX8_below_26 (by decide) (Nat.le_of_ble_eq_true rfl) (Nat.le_refl 0) (Nat.le_refl 0) rfl (fun r s1 h4 hq => ?_)
    obtain ⟨x4, rfl, rfl, hq⟩ := hq
    have K := K x4 h4 hq
    refine zw.st (st' := [.int x4]) rfl ?_
    refine zw_if_eq (tg := 36) dX8_below_29 (by decide) rfl (fun c => ?_) (fun c => ?_)
    · have K := K.1 c
      refine zw_iconst (v := (0 : Int32)) dX8_below_36 (by decide) rfl ?_
      exact zw_ireturn (ty := .int) dX8_below_37 rfl rfl (Nat.le_refl 0) (Nat.le_refl 0) ⟨_, rfl, rfl, K⟩
    · have K := K.2 c
      refine zw_iconst (v := (1 : Int32)) dX8_below_32 (by decide) rfl ?_
      refine zw_goto (np := 37) dX8_below_33 (by decide) ?_
      exact zw_ireturn (ty := .int) dX8_below_37 rfl rfl (Nat.le_refl 0) (Nat.le_refl 0) ⟨_, rfl, rfl, K⟩
  · have K := K.2 c
    refine zw_iload_n 0 dX8_below_11 rfl rfl rfl ?_
    refine zw_goto (np := 37) dX8_below_12 (by decide) ?_
    exact zw_ireturn (ty := .int) dX8_below_37 rfl rfl (Nat.le_refl 0) (Nat.le_refl 0) ⟨_, rfl, rfl, K⟩

set_option maxRecDepth 100000 in
set_option maxHeartbeats 4000000 in
theorem rX8_isCover_0 {q : Int32 → zw_H → Prop} {h : zw_H} {v1 v2 : Int32} (K : (∃ q1 : Int32 → zw_H → Prop, zcI 0 mX8_isAdmitted [.ref 56, .int v1] h q1 ∧ (∀ (x1 : Int32) (h1 : zw_H), q1 x1 h1 → ((x1 = 0 → q (0 : Int32) h1) ∧ (¬ x1 = 0 → (∃ q2 : Int32 → zw_H → Prop, zcI 0 mX8_isAdmitted [.ref 56, .int v2] h1 q2 ∧ (∀ (x2 : Int32) (h2 : zw_H), q2 x2 h2 → ((x2 = 0 → q (0 : Int32) h2) ∧ (¬ x2 = 0 → (∃ q3 : Int32 → zw_H → Prop, zcI 2 mX8_isStrictly [.ref 56, .int v1, .int v2] h2 q3 ∧ (∀ (x3 : Int32) (h3 : zw_H), q3 x3 h3 → ((¬ x3 = 0 → zwI 3 mX8_isCover q 29 [(0, .ref 56), (1, .int v1), (2, .int v2), (3, .int (0 : Int32))] [] h3) ∧ (x3 = 0 → q (0 : Int32) h3))))))))))))) : zwI 3 mX8_isCover q 0 [(0, .ref 56), (1, .int v1), (2, .int v2)] [] h := by
  refine zw_aload_n 0 dX8_isCover_0 rfl rfl rfl ?_
  refine zw_iload_n 1 dX8_isCover_1 rfl rfl rfl ?_
  obtain ⟨q1, ct, K⟩ := K
  refine zw_callV (n := 1) (As := [.int v1]) (rest := []) ct my_X8_isAdmitted rfl rfl k_X8_150 i_X8_isAdmitted s_X8_isAdmitted zs_56 rfl dX8_isCover_2 (by decide) (Nat.le_of_ble_eq_true rfl) (Nat.le_refl 0) (Nat.le_refl 0) rfl (fun r s1 h1 hq => ?_)
  obtain ⟨x1, rfl, rfl, hq⟩ := hq
  have K := K x1 h1 hq
  refine zw.st (st' := [.int x1]) rfl ?_
  refine zw_if_eq (tg := 25) dX8_isCover_5 (by decide) rfl (fun c => ?_) (fun c => ?_)
  · have K := K.1 c
    refine zw_iconst (v := (0 : Int32)) dX8_isCover_25 (by decide) rfl ?_
    exact zw_ireturn (ty := .boolean) dX8_isCover_26 rfl rfl (Nat.le_refl 0) (Nat.le_refl 0) ⟨_, rfl, rfl, K⟩
  · have K := K.2 c
    refine zw_aload_n 0 dX8_isCover_8 rfl rfl rfl ?_
    refine zw_iload_n 2 dX8_isCover_9 rfl rfl rfl ?_
    obtain ⟨q2, ct, K⟩ := K
    refine zw_callV (n := 1) (As := [.int v2]) (rest := []) ct my_X8_isAdmitted rfl rfl k_X8_150 i_X8_isAdmitted s_X8_isAdmitted zs_56 rfl dX8_isCover_10 (by decide) (Nat.le_of_ble_eq_true rfl) (Nat.le_refl 0) (Nat.le_refl 0) rfl (fun r s1 h2 hq => ?_)
    obtain ⟨x2, rfl, rfl, hq⟩ := hq
    have K := K x2 h2 hq
    refine zw.st (st' := [.int x2]) rfl ?_
    refine zw_if_eq (tg := 25) dX8_isCover_13 (by decide) rfl (fun c => ?_) (fun c => ?_)
    · have K := K.1 c
      refine zw_iconst (v := (0 : Int32)) dX8_isCover_25 (by decide) rfl ?_
      exact zw_ireturn (ty := .boolean) dX8_isCover_26 rfl rfl (Nat.le_refl 0) (Nat.le_refl 0) ⟨_, rfl, rfl, K⟩
    · have K := K.2 c
      refine zw_aload_n 0 dX8_isCover_16 rfl rfl rfl ?_
      refine zw_iload_n 1 dX8_isCover_17 rfl rfl rfl ?_
      refine zw_iload_n 2 dX8_isCover_18 rfl rfl rfl ?_
      obtain ⟨q3, ct, K⟩ := K
      refine zw_callV (n := 2) (As := [.int v1, .int v2]) (rest := []) ct my_X8_isStrictly rfl rfl k_X8_169 i_X8_isStrictly s_X8_isStrictly zs_56 rfl dX8_isCover_19 (by decide) (Nat.le_of_ble_eq_true rfl) (Nat.le_refl 0) (Nat.le_refl 0) rfl (fun r s1 h3 hq => ?_)
      obtain ⟨x3, rfl, rfl, hq⟩ := hq
      have K := K x3 h3 hq
      refine zw.st (st' := [.int x3]) rfl ?_
      refine zw_if_ne (tg := 27) dX8_isCover_22 (by decide) rfl (fun c => ?_) (fun c => ?_)
      · have K := K.1 c
        refine zw_iconst (v := (0 : Int32)) dX8_isCover_27 (by decide) rfl ?_
        refine zw_istore_n dX8_isCover_28 rfl (by decide) rfl rfl ?_
        exact zw.sub [1, 2, 3, 0] rfl K
      · have K := K.2 c
        refine zw_iconst (v := (0 : Int32)) dX8_isCover_25 (by decide) rfl ?_
        exact zw_ireturn (ty := .boolean) dX8_isCover_26 rfl rfl (Nat.le_refl 0) (Nat.le_refl 0) ⟨_, rfl, rfl, K⟩

set_option maxRecDepth 100000 in
set_option maxHeartbeats 4000000 in
theorem rX8_isCover_29 {q : Int32 → zw_H → Prop} {h : zw_H} {v1 v2 v3 : Int32} (K : (((h.1 56 7) ≤ v3 → q (1 : Int32) h) ∧ (¬ (h.1 56 7) ≤ v3 → (∃ q1 : Int32 → zw_H → Prop, zcI 0 mX8_isAdmitted [.ref 56, .int v3] h q1 ∧ (∀ (x1 : Int32) (h1 : zw_H), q1 x1 h1 → ((x1 = 0 → zwI 3 mX8_isCover q 29 [(0, .ref 56), (1, .int v1), (2, .int v2), (3, .int (v3 + (1 : Int32)))] [] h1) ∧ (¬ x1 = 0 → (∃ q2 : Int32 → zw_H → Prop, zcI 2 mX8_isStrictly [.ref 56, .int v1, .int v3] h1 q2 ∧ (∀ (x2 : Int32) (h2 : zw_H), q2 x2 h2 → ((x2 = 0 → zwI 3 mX8_isCover q 29 [(0, .ref 56), (1, .int v1), (2, .int v2), (3, .int (v3 + (1 : Int32)))] [] h2) ∧ (¬ x2 = 0 → (∃ q3 : Int32 → zw_H → Prop, zcI 2 mX8_isStrictly [.ref 56, .int v3, .int v2] h2 q3 ∧ (∀ (x3 : Int32) (h3 : zw_H), q3 x3 h3 → ((x3 = 0 → zwI 3 mX8_isCover q 29 [(0, .ref 56), (1, .int v1), (2, .int v2), (3, .int (v3 + (1 : Int32)))] [] h3) ∧ (¬ x3 = 0 → q (0 : Int32) h3))))))))))))))) : zwI 3 mX8_isCover q 29 [(0, .ref 56), (1, .int v1), (2, .int v2), (3, .int v3)] [] h := by
  refine zw_iload_n 3 dX8_isCover_29 rfl rfl rfl ?_
  refine zw_aload_n 0 dX8_isCover_30 rfl rfl rfl ?_
  refine zw_getI f_X8_52 dX8_isCover_31 zs_56 rfl rfl ?_
  refine zw_icmp_ge (tg := 71) dX8_isCover_34 (by decide) rfl (fun c => ?_) (fun c => ?_)
  · have K := K.1 c
    refine zw_iconst (v := (1 : Int32)) dX8_isCover_71 (by decide) rfl ?_
    exact zw_ireturn (ty := .boolean) dX8_isCover_72 rfl rfl (Nat.le_refl 0) (Nat.le_refl 0) ⟨_, rfl, rfl, K⟩
  · have K := K.2 c
    refine zw_aload_n 0 dX8_isCover_37 rfl rfl rfl ?_
    refine zw_iload_n 3 dX8_isCover_38 rfl rfl rfl ?_
    obtain ⟨q1, ct, K⟩ := K
    refine zw_callV (n := 1) (As := [.int v3]) (rest := []) ct my_X8_isAdmitted rfl rfl k_X8_150 i_X8_isAdmitted s_X8_isAdmitted zs_56 rfl dX8_isCover_39 (by decide) (Nat.le_of_ble_eq_true rfl) (Nat.le_refl 0) (Nat.le_refl 0) rfl (fun r s1 h1 hq => ?_)
    obtain ⟨x1, rfl, rfl, hq⟩ := hq
    have K := K x1 h1 hq
    refine zw.st (st' := [.int x1]) rfl ?_
    refine zw_if_eq (tg := 65) dX8_isCover_42 (by decide) rfl (fun c => ?_) (fun c => ?_)
    · have K := K.1 c
      refine zw_iinc (v := (v3 + (1 : Int32))) 3 dX8_isCover_65 rfl rfl (by decide) rfl rfl ?_
      refine zw_goto (np := 29) dX8_isCover_68 (by decide) ?_
      exact zw.sub [1, 2, 3, 0] rfl K
    · have K := K.2 c
      refine zw_aload_n 0 dX8_isCover_45 rfl rfl rfl ?_
      refine zw_iload_n 1 dX8_isCover_46 rfl rfl rfl ?_
      refine zw_iload_n 3 dX8_isCover_47 rfl rfl rfl ?_
      obtain ⟨q2, ct, K⟩ := K
      refine zw_callV (n := 2) (As := [.int v1, .int v3]) (rest := []) ct my_X8_isStrictly rfl rfl k_X8_169 i_X8_isStrictly s_X8_isStrictly zs_56 rfl dX8_isCover_48 (by decide) (Nat.le_of_ble_eq_true rfl) (Nat.le_refl 0) (Nat.le_refl 0) rfl (fun r s1 h2 hq => ?_)
      obtain ⟨x2, rfl, rfl, hq⟩ := hq
      have K := K x2 h2 hq
      refine zw.st (st' := [.int x2]) rfl ?_
      refine zw_if_eq (tg := 65) dX8_isCover_51 (by decide) rfl (fun c => ?_) (fun c => ?_)
      · have K := K.1 c
        refine zw_iinc (v := (v3 + (1 : Int32))) 3 dX8_isCover_65 rfl rfl (by decide) rfl rfl ?_
        refine zw_goto (np := 29) dX8_isCover_68 (by decide) ?_
        exact zw.sub [1, 2, 3, 0] rfl K
      · have K := K.2 c
        refine zw_aload_n 0 dX8_isCover_54 rfl rfl rfl ?_
        refine zw_iload_n 3 dX8_isCover_55 rfl rfl rfl ?_
        refine zw_iload_n 2 dX8_isCover_56 rfl rfl rfl ?_
        obtain ⟨q3, ct, K⟩ := K
        refine zw_callV (n := 2) (As := [.int v3, .int v2]) (rest := []) ct my_X8_isStrictly rfl rfl k_X8_169 i_X8_isStrictly s_X8_isStrictly zs_56 rfl dX8_isCover_57 (by decide) (Nat.le_of_ble_eq_true rfl) (Nat.le_refl 0) (Nat.le_refl 0) rfl (fun r s1 h3 hq => ?_)
        obtain ⟨x3, rfl, rfl, hq⟩ := hq
        have K := K x3 h3 hq
        refine zw.st (st' := [.int x3]) rfl ?_
        refine zw_if_eq (tg := 65) dX8_isCover_60 (by decide) rfl (fun c => ?_) (fun c => ?_)
        · have K := K.1 c
          refine zw_iinc (v := (v3 + (1 : Int32))) 3 dX8_isCover_65 rfl rfl (by decide) rfl rfl ?_
          refine zw_goto (np := 29) dX8_isCover_68 (by decide) ?_
          exact zw.sub [1, 2, 3, 0] rfl K
        · have K := K.2 c
          refine zw_iconst (v := (0 : Int32)) dX8_isCover_63 (by decide) rfl ?_
          exact zw_ireturn (ty := .boolean) dX8_isCover_64 rfl rfl (Nat.le_refl 0) (Nat.le_refl 0) ⟨_, rfl, rfl, K⟩

set_option maxRecDepth 100000 in
set_option maxHeartbeats 4000000 in
theorem rX8_covers_0 {q : Int32 → zw_H → Prop} {h : zw_H} {v1 v2 : Int32} (K : (∃ q1 : Int32 → zw_H → Prop, zcI 2 mX8_wrong [.ref 56, .int v1] h q1 ∧ (∀ (x1 : Int32) (h1 : zw_H), q1 x1 h1 → ((x1 = 0 → (∃ q2 : Int32 → zw_H → Prop, zcI 0 mX8_held [.ref 56, .int v1] h1 q2 ∧ (∀ (x2 : Int32) (h2 : zw_H), q2 x2 h2 → (∃ q3 : Int32 → zw_H → Prop, zcI 0 mX8_isAdmitted [.ref 56, .int x2] h2 q3 ∧ (∀ (x3 : Int32) (h3 : zw_H), q3 x3 h3 → ((¬ x3 = 0 → zwI 4 mX8_covers q 37 [(0, .ref 56), (2, .int v2), (4, .int x2), (5, .int (0 : Int32)), (6, .int (0 : Int32))] [] h3) ∧ (x3 = 0 → q (-3 : Int32) h3))))))) ∧ (¬ x1 = 0 → q x1 h1))))) : zwI 4 mX8_covers q 0 [(0, .ref 56), (1, .int v1), (2, .int v2)] [] h := by
  refine zw_aload_n 0 dX8_covers_0 rfl rfl rfl ?_
  refine zw_iload_n 1 dX8_covers_1 rfl rfl rfl ?_
  obtain ⟨q1, ct, K⟩ := K
  refine zw_callV (n := 1) (As := [.int v1]) (rest := []) ct my_X8_wrong rfl rfl k_X8_131 i_X8_wrong s_X8_wrong zs_56 rfl dX8_covers_2 (by decide) (Nat.le_of_ble_eq_true rfl) (Nat.le_refl 0) (Nat.le_refl 0) rfl (fun r s1 h1 hq => ?_)
  obtain ⟨x1, rfl, rfl, hq⟩ := hq
  have K := K x1 h1 hq
  refine zw.st (st' := [.int x1]) rfl ?_
  refine zw_istore_n dX8_covers_5 rfl (by decide) rfl rfl ?_
  refine zw_iload_n 0 dX8_covers_6 rfl rfl rfl ?_
  refine zw_if_eq (tg := 12) dX8_covers_7 (by decide) rfl (fun c => ?_) (fun c => ?_)
  · have K := K.1 c
    refine zw_aload_n 1 dX8_covers_12 rfl rfl rfl ?_
    refine zw_iload_n 2 dX8_covers_13 rfl rfl rfl ?_
    obtain ⟨q2, ct, K⟩ := K
    refine zw_callV (n := 1) (As := [.int v1]) (rest := []) ct my_X8_held rfl rfl k_X8_128 i_X8_held s_X8_held zs_56 rfl dX8_covers_14 (by decide) (Nat.le_of_ble_eq_true rfl) (Nat.le_refl 0) (Nat.le_refl 0) rfl (fun r s1 h2 hq => ?_)
    obtain ⟨x2, rfl, rfl, hq⟩ := hq
    have K := K x2 h2 hq
    refine zw.st (st' := [.int x2]) rfl ?_
    refine zw_istore dX8_covers_17 (by decide) rfl rfl ?_
    refine zw_aload_n 2 dX8_covers_19 rfl rfl rfl ?_
    refine zw_iload 0 dX8_covers_20 rfl rfl ?_
    obtain ⟨q3, ct, K⟩ := K
    refine zw_callV (n := 1) (As := [.int x2]) (rest := []) ct my_X8_isAdmitted rfl rfl k_X8_150 i_X8_isAdmitted s_X8_isAdmitted zs_56 rfl dX8_covers_22 (by decide) (Nat.le_of_ble_eq_true rfl) (Nat.le_refl 0) (Nat.le_refl 0) rfl (fun r s1 h3 hq => ?_)
    obtain ⟨x3, rfl, rfl, hq⟩ := hq
    have K := K x3 h3 hq
    refine zw.st (st' := [.int x3]) rfl ?_
    refine zw_if_ne (tg := 31) dX8_covers_25 (by decide) rfl (fun c => ?_) (fun c => ?_)
    · have K := K.1 c
      refine zw_iconst (v := (0 : Int32)) dX8_covers_31 (by decide) rfl ?_
      refine zw_istore dX8_covers_32 (by decide) rfl rfl ?_
      refine zw_iconst (v := (0 : Int32)) dX8_covers_34 (by decide) rfl ?_
      refine zw_istore dX8_covers_35 (by decide) rfl rfl ?_
      exact zw.sub [4, 6, 2, 1, 0] rfl K
    · have K := K.2 c
      refine zw_bipush (v := (-3 : Int32)) dX8_covers_28 (by decide) rfl ?_
      exact zw_ireturn (ty := .int) dX8_covers_30 rfl rfl (Nat.le_refl 0) (Nat.le_refl 0) ⟨_, rfl, rfl, K⟩
  · have K := K.2 c
    refine zw_iload_n 0 dX8_covers_10 rfl rfl rfl ?_
    exact zw_ireturn (ty := .int) dX8_covers_11 rfl rfl (Nat.le_refl 0) (Nat.le_refl 0) ⟨_, rfl, rfl, K⟩

set_option maxRecDepth 100000 in
set_option maxHeartbeats 4000000 in
theorem rX8_covers_37 {q : Int32 → zw_H → Prop} {h : zw_H} {v2 v4 v5 v6 : Int32} (K : (((h.1 56 7) ≤ v6 → q v5 h) ∧ (¬ (h.1 56 7) ≤ v6 → ((v2 = 0 → (∃ q1 : Int32 → zw_H → Prop, zcI 3 mX8_isCover [.ref 56, .int v4, .int v6] h q1 ∧ (∀ (x1 : Int32) (h1 : zw_H), q1 x1 h1 → ((x1 = 0 → zwI 4 mX8_covers q 37 [(0, .ref 56), (2, .int v2), (4, .int v4), (5, .int (v5 + (0 : Int32))), (6, .int (v6 + (1 : Int32)))] [] h1) ∧ (¬ x1 = 0 → zwI 4 mX8_covers q 37 [(0, .ref 56), (2, .int v2), (4, .int v4), (5, .int (v5 + (1 : Int32))), (6, .int (v6 + (1 : Int32)))] [] h1))))) ∧ (¬ v2 = 0 → (∃ q2 : Int32 → zw_H → Prop, zcI 3 mX8_isCover [.ref 56, .int v6, .int v4] h q2 ∧ (∀ (x2 : Int32) (h2 : zw_H), q2 x2 h2 → ((x2 = 0 → zwI 4 mX8_covers q 37 [(0, .ref 56), (2, .int v2), (4, .int v4), (5, .int (v5 + (0 : Int32))), (6, .int (v6 + (1 : Int32)))] [] h2) ∧ (¬ x2 = 0 → zwI 4 mX8_covers q 37 [(0, .ref 56), (2, .int v2), (4, .int v4), (5, .int (v5 + (1 : Int32))), (6, .int (v6 + (1 : Int32)))] [] h2))))))))) : zwI 4 mX8_covers q 37 [(0, .ref 56), (2, .int v2), (4, .int v4), (5, .int v5), (6, .int v6)] [] h := by
  refine zw_iload 4 dX8_covers_37 rfl rfl ?_
  refine zw_aload_n 0 dX8_covers_39 rfl rfl rfl ?_
  refine zw_getI f_X8_52 dX8_covers_40 zs_56 rfl rfl ?_
  refine zw_icmp_ge (tg := 91) dX8_covers_43 (by decide) rfl (fun c => ?_) (fun c => ?_)
  · have K := K.1 c
    refine zw_iload 3 dX8_covers_91 rfl rfl ?_
    exact zw_ireturn (ty := .int) dX8_covers_93 rfl rfl (Nat.le_refl 0) (Nat.le_refl 0) ⟨_, rfl, rfl, K⟩
  · have K := K.2 c
    refine zw_iload 3 dX8_covers_46 rfl rfl ?_
    refine zw_iload_n 1 dX8_covers_48 rfl rfl rfl ?_
    refine zw_if_eq (tg := 66) dX8_covers_49 (by decide) rfl (fun c => ?_) (fun c => ?_)
    · have K := K.1 c
      refine zw_aload_n 0 dX8_covers_66 rfl rfl rfl ?_
      refine zw_iload 2 dX8_covers_67 rfl rfl ?_
      refine zw_iload 4 dX8_covers_69 rfl rfl ?_
      obtain ⟨q1, ct, K⟩ := K
      refine zw_callV (n := 2) (As := [.int v4, .int v6]) (rest := [.int v5]) ct my_X8_isCover rfl rfl k_X8_172 i_X8_isCover s_X8_isCover zs_56 rfl dX8_covers_71 (by decide) (Nat.le_of_ble_eq_true rfl) (Nat.le_refl 0) (Nat.le_refl 0) rfl (fun r s1 h1 hq => ?_)
      obtain ⟨x1, rfl, rfl, hq⟩ := hq
      have K := K x1 h1 hq
      refine zw.st (st' := [.int x1, .int v5]) rfl ?_
      refine zw_if_eq (tg := 81) dX8_covers_74 (by decide) rfl (fun c => ?_) (fun c => ?_)
      · have K := K.1 c
        refine zw_iconst (v := (0 : Int32)) dX8_covers_81 (by decide) rfl ?_
        refine zw_iadd dX8_covers_82 rfl ?_
        refine zw_istore dX8_covers_83 (by decide) rfl rfl ?_
        refine zw_iinc (v := (v6 + (1 : Int32))) 4 dX8_covers_85 rfl rfl (by decide) rfl rfl ?_
        refine zw_goto (np := 37) dX8_covers_88 (by decide) ?_
        exact zw.sub [2, 3, 4, 1, 0] rfl K
      · have K := K.2 c
        refine zw_iconst (v := (1 : Int32)) dX8_covers_77 (by decide) rfl ?_
        refine zw_goto (np := 82) dX8_covers_78 (by decide) ?_
        refine zw_iadd dX8_covers_82 rfl ?_
        refine zw_istore dX8_covers_83 (by decide) rfl rfl ?_
        refine zw_iinc (v := (v6 + (1 : Int32))) 4 dX8_covers_85 rfl rfl (by decide) rfl rfl ?_
        refine zw_goto (np := 37) dX8_covers_88 (by decide) ?_
        exact zw.sub [2, 3, 4, 1, 0] rfl K
    · have K := K.2 c
      refine zw_aload_n 0 dX8_covers_52 rfl rfl rfl ?_
      refine zw_iload 4 dX8_covers_53 rfl rfl ?_
      refine zw_iload 2 dX8_covers_55 rfl rfl ?_
      obtain ⟨q2, ct, K⟩ := K
      refine zw_callV (n := 2) (As := [.int v6, .int v4]) (rest := [.int v5]) ct my_X8_isCover rfl rfl k_X8_172 i_X8_isCover s_X8_isCover zs_56 rfl dX8_covers_57 (by decide) (Nat.le_of_ble_eq_true rfl) (Nat.le_refl 0) (Nat.le_refl 0) rfl (fun r s1 h2 hq => ?_)
      obtain ⟨x2, rfl, rfl, hq⟩ := hq
      have K := K x2 h2 hq
      refine zw.st (st' := [.int x2, .int v5]) rfl ?_
      refine zw_if_eq (tg := 81) dX8_covers_60 (by decide) rfl (fun c => ?_) (fun c => ?_)
      · have K := K.1 c
        refine zw_iconst (v := (0 : Int32)) dX8_covers_81 (by decide) rfl ?_
        refine zw_iadd dX8_covers_82 rfl ?_
        refine zw_istore dX8_covers_83 (by decide) rfl rfl ?_
        refine zw_iinc (v := (v6 + (1 : Int32))) 4 dX8_covers_85 rfl rfl (by decide) rfl rfl ?_
        refine zw_goto (np := 37) dX8_covers_88 (by decide) ?_
        exact zw.sub [2, 3, 4, 1, 0] rfl K
      · have K := K.2 c
        refine zw_goto (np := 77) dX8_covers_63 (by decide) ?_
        refine zw_iconst (v := (1 : Int32)) dX8_covers_77 (by decide) rfl ?_
        refine zw_goto (np := 82) dX8_covers_78 (by decide) ?_
        refine zw_iadd dX8_covers_82 rfl ?_
        refine zw_istore dX8_covers_83 (by decide) rfl rfl ?_
        refine zw_iinc (v := (v6 + (1 : Int32))) 4 dX8_covers_85 rfl rfl (by decide) rfl rfl ?_
        refine zw_goto (np := 37) dX8_covers_88 (by decide) ?_
        exact zw.sub [2, 3, 4, 1, 0] rfl K

set_option maxRecDepth 100000 in
set_option maxHeartbeats 4000000 in
theorem rX8_isBound_0 {q : Int32 → zw_H → Prop} {h : zw_H} {v1 v2 v3 v4 : Int32} (K : (∃ q1 : Int32 → zw_H → Prop, zcI 0 mX8_isAdmitted [.ref 56, .int v1] h q1 ∧ (∀ (x1 : Int32) (h1 : zw_H), q1 x1 h1 → ((x1 = 0 → q (0 : Int32) h1) ∧ (¬ x1 = 0 → ((v4 = 0 → (∃ q2 : Int32 → zw_H → Prop, zcI 1 mX8_isBelow [.ref 56, .int v2, .int v1] h1 q2 ∧ (∀ (x2 : Int32) (h2 : zw_H), q2 x2 h2 → ((x2 = 0 → q (0 : Int32) h2) ∧ (¬ x2 = 0 → (∃ q3 : Int32 → zw_H → Prop, zcI 1 mX8_isBelow [.ref 56, .int v3, .int v1] h2 q3 ∧ (∀ (x3 : Int32) (h3 : zw_H), q3 x3 h3 → ((x3 = 0 → q (0 : Int32) h3) ∧ (¬ x3 = 0 → q (1 : Int32) h3))))))))) ∧ (¬ v4 = 0 → (∃ q4 : Int32 → zw_H → Prop, zcI 1 mX8_isBelow [.ref 56, .int v1, .int v2] h1 q4 ∧ (∀ (x4 : Int32) (h4 : zw_H), q4 x4 h4 → ((x4 = 0 → q (0 : Int32) h4) ∧ (¬ x4 = 0 → (∃ q5 : Int32 → zw_H → Prop, zcI 1 mX8_isBelow [.ref 56, .int v1, .int v3] h4 q5 ∧ (∀ (x5 : Int32) (h5 : zw_H), q5 x5 h5 → ((x5 = 0 → q (0 : Int32) h5) ∧ (¬ x5 = 0 → q (1 : Int32) h5))))))))))))))) : zwI 2 mX8_isBound q 0 [(0, .ref 56), (1, .int v1), (2, .int v2), (3, .int v3), (4, .int v4)] [] h := by
  refine zw_aload_n 0 dX8_isBound_0 rfl rfl rfl ?_
  refine zw_iload_n 1 dX8_isBound_1 rfl rfl rfl ?_
  obtain ⟨q1, ct, K⟩ := K
  refine zw_callV (n := 1) (As := [.int v1]) (rest := []) ct my_X8_isAdmitted rfl rfl k_X8_150 i_X8_isAdmitted s_X8_isAdmitted zs_56 rfl dX8_isBound_2 (by decide) (Nat.le_of_ble_eq_true rfl) (Nat.le_refl 0) (Nat.le_refl 0) rfl (fun r s1 h1 hq => ?_)
  obtain ⟨x1, rfl, rfl, hq⟩ := hq
  have K := K x1 h1 hq
  refine zw.st (st' := [.int x1]) rfl ?_
  refine zw_if_eq (tg := 56) dX8_isBound_5 (by decide) rfl (fun c => ?_) (fun c => ?_)
  · have K := K.1 c
    refine zw_iconst (v := (0 : Int32)) dX8_isBound_56 (by decide) rfl ?_
    exact zw_ireturn (ty := .boolean) dX8_isBound_57 rfl rfl (Nat.le_refl 0) (Nat.le_refl 0) ⟨_, rfl, rfl, K⟩
  · have K := K.2 c
    refine zw_iload 4 dX8_isBound_8 rfl rfl ?_
    refine zw_if_eq (tg := 34) dX8_isBound_10 (by decide) rfl (fun c => ?_) (fun c => ?_)
    · have K := K.1 c
      refine zw_aload_n 0 dX8_isBound_34 rfl rfl rfl ?_
      refine zw_iload_n 2 dX8_isBound_35 rfl rfl rfl ?_
      refine zw_iload_n 1 dX8_isBound_36 rfl rfl rfl ?_
      obtain ⟨q2, ct, K⟩ := K
      refine zw_callV (n := 2) (As := [.int v2, .int v1]) (rest := []) ct my_X8_isBelow rfl rfl k_X8_89 i_X8_isBelow s_X8_isBelow zs_56 rfl dX8_isBound_37 (by decide) (Nat.le_of_ble_eq_true rfl) (Nat.le_refl 0) (Nat.le_refl 0) rfl (fun r s1 h2 hq => ?_)
      obtain ⟨x2, rfl, rfl, hq⟩ := hq
      have K := K x2 h2 hq
      refine zw.st (st' := [.int x2]) rfl ?_
      refine zw_if_eq (tg := 56) dX8_isBound_40 (by decide) rfl (fun c => ?_) (fun c => ?_)
      · have K := K.1 c
        refine zw_iconst (v := (0 : Int32)) dX8_isBound_56 (by decide) rfl ?_
        exact zw_ireturn (ty := .boolean) dX8_isBound_57 rfl rfl (Nat.le_refl 0) (Nat.le_refl 0) ⟨_, rfl, rfl, K⟩
      · have K := K.2 c
        refine zw_aload_n 0 dX8_isBound_43 rfl rfl rfl ?_
        refine zw_iload_n 3 dX8_isBound_44 rfl rfl rfl ?_
        refine zw_iload_n 1 dX8_isBound_45 rfl rfl rfl ?_
        obtain ⟨q3, ct, K⟩ := K
        refine zw_callV (n := 2) (As := [.int v3, .int v1]) (rest := []) ct my_X8_isBelow rfl rfl k_X8_89 i_X8_isBelow s_X8_isBelow zs_56 rfl dX8_isBound_46 (by decide) (Nat.le_of_ble_eq_true rfl) (Nat.le_refl 0) (Nat.le_refl 0) rfl (fun r s1 h3 hq => ?_)
        obtain ⟨x3, rfl, rfl, hq⟩ := hq
        have K := K x3 h3 hq
        refine zw.st (st' := [.int x3]) rfl ?_
        refine zw_if_eq (tg := 56) dX8_isBound_49 (by decide) rfl (fun c => ?_) (fun c => ?_)
        · have K := K.1 c
          refine zw_iconst (v := (0 : Int32)) dX8_isBound_56 (by decide) rfl ?_
          exact zw_ireturn (ty := .boolean) dX8_isBound_57 rfl rfl (Nat.le_refl 0) (Nat.le_refl 0) ⟨_, rfl, rfl, K⟩
        · have K := K.2 c
          refine zw_iconst (v := (1 : Int32)) dX8_isBound_52 (by decide) rfl ?_
          refine zw_goto (np := 57) dX8_isBound_53 (by decide) ?_
          exact zw_ireturn (ty := .boolean) dX8_isBound_57 rfl rfl (Nat.le_refl 0) (Nat.le_refl 0) ⟨_, rfl, rfl, K⟩
    · have K := K.2 c
      refine zw_aload_n 0 dX8_isBound_13 rfl rfl rfl ?_
      refine zw_iload_n 1 dX8_isBound_14 rfl rfl rfl ?_
      refine zw_iload_n 2 dX8_isBound_15 rfl rfl rfl ?_
      obtain ⟨q4, ct, K⟩ := K
      refine zw_callV (n := 2) (As := [.int v1, .int v2]) (rest := []) ct my_X8_isBelow rfl rfl k_X8_89 i_X8_isBelow s_X8_isBelow zs_56 rfl dX8_isBound_16 (by decide) (Nat.le_of_ble_eq_true rfl) (Nat.le_refl 0) (Nat.le_refl 0) rfl (fun r s1 h4 hq => ?_)
      obtain ⟨x4, rfl, rfl, hq⟩ := hq
      have K := K x4 h4 hq
      refine zw.st (st' := [.int x4]) rfl ?_
      refine zw_if_eq (tg := 56) dX8_isBound_19 (by decide) rfl (fun c => ?_) (fun c => ?_)
      · have K := K.1 c
        refine zw_iconst (v := (0 : Int32)) dX8_isBound_56 (by decide) rfl ?_
        exact zw_ireturn (ty := .boolean) dX8_isBound_57 rfl rfl (Nat.le_refl 0) (Nat.le_refl 0) ⟨_, rfl, rfl, K⟩
      · have K := K.2 c
        refine zw_aload_n 0 dX8_isBound_22 rfl rfl rfl ?_
        refine zw_iload_n 1 dX8_isBound_23 rfl rfl rfl ?_
        refine zw_iload_n 3 dX8_isBound_24 rfl rfl rfl ?_
        obtain ⟨q5, ct, K⟩ := K
        refine zw_callV (n := 2) (As := [.int v1, .int v3]) (rest := []) ct my_X8_isBelow rfl rfl k_X8_89 i_X8_isBelow s_X8_isBelow zs_56 rfl dX8_isBound_25 (by decide) (Nat.le_of_ble_eq_true rfl) (Nat.le_refl 0) (Nat.le_refl 0) rfl (fun r s1 h5 hq => ?_)
        obtain ⟨x5, rfl, rfl, hq⟩ := hq
        have K := K x5 h5 hq
        refine zw.st (st' := [.int x5]) rfl ?_
        refine zw_if_eq (tg := 56) dX8_isBound_28 (by decide) rfl (fun c => ?_) (fun c => ?_)
        · have K := K.1 c
          refine zw_iconst (v := (0 : Int32)) dX8_isBound_56 (by decide) rfl ?_
          exact zw_ireturn (ty := .boolean) dX8_isBound_57 rfl rfl (Nat.le_refl 0) (Nat.le_refl 0) ⟨_, rfl, rfl, K⟩
        · have K := K.2 c
          refine zw_goto (np := 52) dX8_isBound_31 (by decide) ?_
          refine zw_iconst (v := (1 : Int32)) dX8_isBound_52 (by decide) rfl ?_
          refine zw_goto (np := 57) dX8_isBound_53 (by decide) ?_
          exact zw_ireturn (ty := .boolean) dX8_isBound_57 rfl rfl (Nat.le_refl 0) (Nat.le_refl 0) ⟨_, rfl, rfl, K⟩

set_option maxRecDepth 100000 in
set_option maxHeartbeats 4000000 in
theorem rX8_nearestBounds_0 {q : Int32 → zw_H → Prop} {h : zw_H} {v1 v2 v3 : Int32} (K : zwI 3 mX8_nearestBounds q 6 [(0, .ref 56), (1, .int v1), (2, .int v2), (3, .int v3), (4, .int (0 : Int32)), (5, .int (0 : Int32))] [] h) : zwI 3 mX8_nearestBounds q 0 [(0, .ref 56), (1, .int v1), (2, .int v2), (3, .int v3)] [] h := by
  refine zw_iconst (v := (0 : Int32)) dX8_nearestBounds_0 (by decide) rfl ?_
  refine zw_istore dX8_nearestBounds_1 (by decide) rfl rfl ?_
  refine zw_iconst (v := (0 : Int32)) dX8_nearestBounds_3 (by decide) rfl ?_
  refine zw_istore dX8_nearestBounds_4 (by decide) rfl rfl ?_
  exact zw.sub [2, 3, 4, 5, 1, 0] rfl K

set_option maxRecDepth 100000 in
set_option maxHeartbeats 4000000 in
theorem rX8_nearestBounds_6 {q : Int32 → zw_H → Prop} {h : zw_H} {v1 v2 v3 v4 v5 : Int32} (K : (((h.1 56 7) ≤ v5 → q v4 h) ∧ (¬ (h.1 56 7) ≤ v5 → (∃ q1 : Int32 → zw_H → Prop, zcI 2 mX8_isBound [.ref 56, .int v5, .int v1, .int v2, .int v3] h q1 ∧ (∀ (x1 : Int32) (h1 : zw_H), q1 x1 h1 → zwI 3 mX8_nearestBounds q 29 [(0, .ref 56), (1, .int v1), (2, .int v2), (3, .int v3), (4, .int v4), (5, .int v5), (6, .int x1), (7, .int (0 : Int32))] [] h1))))) : zwI 3 mX8_nearestBounds q 6 [(0, .ref 56), (1, .int v1), (2, .int v2), (3, .int v3), (4, .int v4), (5, .int v5)] [] h := by
  refine zw_iload 5 dX8_nearestBounds_6 rfl rfl ?_
  refine zw_aload_n 0 dX8_nearestBounds_8 rfl rfl rfl ?_
  refine zw_getI f_X8_52 dX8_nearestBounds_9 zs_56 rfl rfl ?_
  refine zw_icmp_ge (tg := 136) dX8_nearestBounds_12 (by decide) rfl (fun c => ?_) (fun c => ?_)
  · have K := K.1 c
    refine zw_iload 4 dX8_nearestBounds_136 rfl rfl ?_
    exact zw_ireturn (ty := .int) dX8_nearestBounds_138 rfl rfl (Nat.le_refl 0) (Nat.le_refl 0) ⟨_, rfl, rfl, K⟩
  · have K := K.2 c
    refine zw_aload_n 0 dX8_nearestBounds_15 rfl rfl rfl ?_
    refine zw_iload 5 dX8_nearestBounds_16 rfl rfl ?_
    refine zw_iload_n 1 dX8_nearestBounds_18 rfl rfl rfl ?_
    refine zw_iload_n 2 dX8_nearestBounds_19 rfl rfl rfl ?_
    refine zw_iload_n 3 dX8_nearestBounds_20 rfl rfl rfl ?_
    obtain ⟨q1, ct, K⟩ := K
    refine zw_callV (n := 4) (As := [.int v5, .int v1, .int v2, .int v3]) (rest := []) ct my_X8_isBound rfl rfl k_X8_175 i_X8_isBound s_X8_isBound zs_56 rfl dX8_nearestBounds_21 (by decide) (Nat.le_of_ble_eq_true rfl) (Nat.le_refl 0) (Nat.le_refl 0) rfl (fun r s1 h1 hq => ?_)
    obtain ⟨x1, rfl, rfl, hq⟩ := hq
    have K := K x1 h1 hq
    refine zw.st (st' := [.int x1]) rfl ?_
    refine zw_istore dX8_nearestBounds_24 (by decide) rfl rfl ?_
    refine zw_iconst (v := (0 : Int32)) dX8_nearestBounds_26 (by decide) rfl ?_
    refine zw_istore dX8_nearestBounds_27 (by decide) rfl rfl ?_
    exact zw.sub [2, 3, 4, 5, 6, 7, 1, 0] rfl K

set_option maxRecDepth 100000 in
set_option maxHeartbeats 4000000 in
theorem rX8_nearestBounds_29 {q : Int32 → zw_H → Prop} {h : zw_H} {v1 v2 v3 v4 v5 v6 v7 : Int32} (K : (((h.1 56 7) ≤ v7 → ((v6 = 0 → ((v6 = 0 → (∀ h1 : zw_H, h1 = zw_sI h 56 10 (h.1 56 10) → zwI 3 mX8_nearestBounds q 6 [(0, .ref 56), (1, .int v1), (2, .int v2), (3, .int v3), (4, .int (v4 + (0 : Int32))), (5, .int (v5 + (1 : Int32)))] [] h1)) ∧ (¬ v6 = 0 → (∀ h2 : zw_H, h2 = zw_sI h 56 10 v5 → zwI 3 mX8_nearestBounds q 6 [(0, .ref 56), (1, .int v1), (2, .int v2), (3, .int v3), (4, .int (v4 + (0 : Int32))), (5, .int (v5 + (1 : Int32)))] [] h2)))) ∧ (¬ v6 = 0 → ((v6 = 0 → (∀ h3 : zw_H, h3 = zw_sI h 56 10 (h.1 56 10) → zwI 3 mX8_nearestBounds q 6 [(0, .ref 56), (1, .int v1), (2, .int v2), (3, .int v3), (4, .int (v4 + (1 : Int32))), (5, .int (v5 + (1 : Int32)))] [] h3)) ∧ (¬ v6 = 0 → (∀ h4 : zw_H, h4 = zw_sI h 56 10 v5 → zwI 3 mX8_nearestBounds q 6 [(0, .ref 56), (1, .int v1), (2, .int v2), (3, .int v3), (4, .int (v4 + (1 : Int32))), (5, .int (v5 + (1 : Int32)))] [] h4)))))) ∧ (¬ (h.1 56 7) ≤ v7 → ((v6 = 0 → ((v6 = 0 → ((v6 = 0 → (∀ h5 : zw_H, h5 = zw_sI h 56 10 (h.1 56 10) → zwI 3 mX8_nearestBounds q 6 [(0, .ref 56), (1, .int v1), (2, .int v2), (3, .int v3), (4, .int (v4 + (0 : Int32))), (5, .int (v5 + (1 : Int32)))] [] h5)) ∧ (¬ v6 = 0 → (∀ h6 : zw_H, h6 = zw_sI h 56 10 v5 → zwI 3 mX8_nearestBounds q 6 [(0, .ref 56), (1, .int v1), (2, .int v2), (3, .int v3), (4, .int (v4 + (0 : Int32))), (5, .int (v5 + (1 : Int32)))] [] h6)))) ∧ (¬ v6 = 0 → ((v6 = 0 → (∀ h7 : zw_H, h7 = zw_sI h 56 10 (h.1 56 10) → zwI 3 mX8_nearestBounds q 6 [(0, .ref 56), (1, .int v1), (2, .int v2), (3, .int v3), (4, .int (v4 + (1 : Int32))), (5, .int (v5 + (1 : Int32)))] [] h7)) ∧ (¬ v6 = 0 → (∀ h8 : zw_H, h8 = zw_sI h 56 10 v5 → zwI 3 mX8_nearestBounds q 6 [(0, .ref 56), (1, .int v1), (2, .int v2), (3, .int v3), (4, .int (v4 + (1 : Int32))), (5, .int (v5 + (1 : Int32)))] [] h8)))))) ∧ (¬ v6 = 0 → (∃ q9 : Int32 → zw_H → Prop, zcI 2 mX8_isBound [.ref 56, .int v7, .int v1, .int v2, .int v3] h q9 ∧ (∀ (x9 : Int32) (h9 : zw_H), q9 x9 h9 → ((x9 = 0 → zwI 3 mX8_nearestBounds q 29 [(0, .ref 56), (1, .int v1), (2, .int v2), (3, .int v3), (4, .int v4), (5, .int v5), (6, .int (1 : Int32)), (7, .int (v7 + (1 : Int32)))] [] h9) ∧ (¬ x9 = 0 → ((v3 = 0 → (∃ q10 : Int32 → zw_H → Prop, zcI 2 mX8_isStrictly [.ref 56, .int v7, .int v5] h9 q10 ∧ (∀ (x10 : Int32) (h10 : zw_H), q10 x10 h10 → ((¬ x10 = 0 → zwI 3 mX8_nearestBounds q 29 [(0, .ref 56), (1, .int v1), (2, .int v2), (3, .int v3), (4, .int v4), (5, .int v5), (6, .int (0 : Int32)), (7, .int (v7 + (1 : Int32)))] [] h10) ∧ (x10 = 0 → zwI 3 mX8_nearestBounds q 29 [(0, .ref 56), (1, .int v1), (2, .int v2), (3, .int v3), (4, .int v4), (5, .int v5), (6, .int (1 : Int32)), (7, .int (v7 + (1 : Int32)))] [] h10))))) ∧ (¬ v3 = 0 → (∃ q11 : Int32 → zw_H → Prop, zcI 2 mX8_isStrictly [.ref 56, .int v5, .int v7] h9 q11 ∧ (∀ (x11 : Int32) (h11 : zw_H), q11 x11 h11 → ((x11 = 0 → zwI 3 mX8_nearestBounds q 29 [(0, .ref 56), (1, .int v1), (2, .int v2), (3, .int v3), (4, .int v4), (5, .int v5), (6, .int (1 : Int32)), (7, .int (v7 + (1 : Int32)))] [] h11) ∧ (¬ x11 = 0 → zwI 3 mX8_nearestBounds q 29 [(0, .ref 56), (1, .int v1), (2, .int v2), (3, .int v3), (4, .int v4), (5, .int v5), (6, .int (0 : Int32)), (7, .int (v7 + (1 : Int32)))] [] h11))))))))))))))) : zwI 3 mX8_nearestBounds q 29 [(0, .ref 56), (1, .int v1), (2, .int v2), (3, .int v3), (4, .int v4), (5, .int v5), (6, .int v6), (7, .int v7)] [] h := by
  refine zw_iload 7 dX8_nearestBounds_29 rfl rfl ?_
  refine zw_aload_n 0 dX8_nearestBounds_31 rfl rfl rfl ?_
  refine zw_getI f_X8_52 dX8_nearestBounds_32 zs_56 rfl rfl ?_
  refine zw_icmp_ge (tg := 97) dX8_nearestBounds_35 (by decide) rfl (fun c => ?_) (fun c => ?_)
  · have K := K.1 c
    refine zw_iload 4 dX8_nearestBounds_97 rfl rfl ?_
    refine zw_iload 6 dX8_nearestBounds_99 rfl rfl ?_
    refine zw_if_eq (tg := 108) dX8_nearestBounds_101 (by decide) rfl (fun c => ?_) (fun c => ?_)
    · have K := K.1 c
      refine zw_iconst (v := (0 : Int32)) dX8_nearestBounds_108 (by decide) rfl ?_
      refine zw_iadd dX8_nearestBounds_109 rfl ?_
      refine zw_istore dX8_nearestBounds_110 (by decide) rfl rfl ?_
      refine zw_aload_n 1 dX8_nearestBounds_112 rfl rfl rfl ?_
      refine zw_iload 6 dX8_nearestBounds_113 rfl rfl ?_
      refine zw_if_eq (tg := 123) dX8_nearestBounds_115 (by decide) rfl (fun c => ?_) (fun c => ?_)
      · have K := K.1 c
        refine zw_aload_n 1 dX8_nearestBounds_123 rfl rfl rfl ?_
        refine zw_getI f_X8_179 dX8_nearestBounds_124 zs_56 rfl rfl ?_
        refine zw_putI f_X8_179 cl_X8 rfl ⟨rfl, rfl⟩ dX8_nearestBounds_127 zs_56 rfl rfl ?_
        generalize e1 : zw_sI h 56 10 (h.1 56 10) = h1
        have K := K h1 e1.symm
        refine zw_iinc (v := (v5 + (1 : Int32))) 5 dX8_nearestBounds_130 rfl rfl (by decide) rfl rfl ?_
        refine zw_goto (np := 6) dX8_nearestBounds_133 (by decide) ?_
        exact zw.sub [2, 3, 4, 5, 1, 0] rfl K
      · have K := K.2 c
        refine zw_iload 5 dX8_nearestBounds_118 rfl rfl ?_
        refine zw_goto (np := 127) dX8_nearestBounds_120 (by decide) ?_
        refine zw_putI f_X8_179 cl_X8 rfl ⟨rfl, rfl⟩ dX8_nearestBounds_127 zs_56 rfl rfl ?_
        generalize e2 : zw_sI h 56 10 v5 = h2
        have K := K h2 e2.symm
        refine zw_iinc (v := (v5 + (1 : Int32))) 5 dX8_nearestBounds_130 rfl rfl (by decide) rfl rfl ?_
        refine zw_goto (np := 6) dX8_nearestBounds_133 (by decide) ?_
        exact zw.sub [2, 3, 4, 5, 1, 0] rfl K
    · have K := K.2 c
      refine zw_iconst (v := (1 : Int32)) dX8_nearestBounds_104 (by decide) rfl ?_
      refine zw_goto (np := 109) dX8_nearestBounds_105 (by decide) ?_
      refine zw_iadd dX8_nearestBounds_109 rfl ?_
      refine zw_istore dX8_nearestBounds_110 (by decide) rfl rfl ?_
      refine zw_aload_n 1 dX8_nearestBounds_112 rfl rfl rfl ?_
      refine zw_iload 6 dX8_nearestBounds_113 rfl rfl ?_
      refine zw_if_eq (tg := 123) dX8_nearestBounds_115 (by decide) rfl (fun c => ?_) (fun c => ?_)
      · have K := K.1 c
        refine zw_aload_n 1 dX8_nearestBounds_123 rfl rfl rfl ?_
        refine zw_getI f_X8_179 dX8_nearestBounds_124 zs_56 rfl rfl ?_
        refine zw_putI f_X8_179 cl_X8 rfl ⟨rfl, rfl⟩ dX8_nearestBounds_127 zs_56 rfl rfl ?_
        generalize e3 : zw_sI h 56 10 (h.1 56 10) = h3
        have K := K h3 e3.symm
        refine zw_iinc (v := (v5 + (1 : Int32))) 5 dX8_nearestBounds_130 rfl rfl (by decide) rfl rfl ?_
        refine zw_goto (np := 6) dX8_nearestBounds_133 (by decide) ?_
        exact zw.sub [2, 3, 4, 5, 1, 0] rfl K
      · have K := K.2 c
        refine zw_iload 5 dX8_nearestBounds_118 rfl rfl ?_
        refine zw_goto (np := 127) dX8_nearestBounds_120 (by decide) ?_
        refine zw_putI f_X8_179 cl_X8 rfl ⟨rfl, rfl⟩ dX8_nearestBounds_127 zs_56 rfl rfl ?_
        generalize e4 : zw_sI h 56 10 v5 = h4
        have K := K h4 e4.symm
        refine zw_iinc (v := (v5 + (1 : Int32))) 5 dX8_nearestBounds_130 rfl rfl (by decide) rfl rfl ?_
        refine zw_goto (np := 6) dX8_nearestBounds_133 (by decide) ?_
        exact zw.sub [2, 3, 4, 5, 1, 0] rfl K
  · have K := K.2 c
    refine zw_iload 6 dX8_nearestBounds_38 rfl rfl ?_
    refine zw_if_eq (tg := 97) dX8_nearestBounds_40 (by decide) rfl (fun c => ?_) (fun c => ?_)
    · have K := K.1 c
      refine zw_iload 4 dX8_nearestBounds_97 rfl rfl ?_
      refine zw_iload 6 dX8_nearestBounds_99 rfl rfl ?_
      refine zw_if_eq (tg := 108) dX8_nearestBounds_101 (by decide) rfl (fun c => ?_) (fun c => ?_)
      · have K := K.1 c
        refine zw_iconst (v := (0 : Int32)) dX8_nearestBounds_108 (by decide) rfl ?_
        refine zw_iadd dX8_nearestBounds_109 rfl ?_
        refine zw_istore dX8_nearestBounds_110 (by decide) rfl rfl ?_
        refine zw_aload_n 1 dX8_nearestBounds_112 rfl rfl rfl ?_
        refine zw_iload 6 dX8_nearestBounds_113 rfl rfl ?_
        refine zw_if_eq (tg := 123) dX8_nearestBounds_115 (by decide) rfl (fun c => ?_) (fun c => ?_)
        · have K := K.1 c
          refine zw_aload_n 1 dX8_nearestBounds_123 rfl rfl rfl ?_
          refine zw_getI f_X8_179 dX8_nearestBounds_124 zs_56 rfl rfl ?_
          refine zw_putI f_X8_179 cl_X8 rfl ⟨rfl, rfl⟩ dX8_nearestBounds_127 zs_56 rfl rfl ?_
          generalize e5 : zw_sI h 56 10 (h.1 56 10) = h5
          have K := K h5 e5.symm
          refine zw_iinc (v := (v5 + (1 : Int32))) 5 dX8_nearestBounds_130 rfl rfl (by decide) rfl rfl ?_
          refine zw_goto (np := 6) dX8_nearestBounds_133 (by decide) ?_
          exact zw.sub [2, 3, 4, 5, 1, 0] rfl K
        · have K := K.2 c
          refine zw_iload 5 dX8_nearestBounds_118 rfl rfl ?_
          refine zw_goto (np := 127) dX8_nearestBounds_120 (by decide) ?_
          refine zw_putI f_X8_179 cl_X8 rfl ⟨rfl, rfl⟩ dX8_nearestBounds_127 zs_56 rfl rfl ?_
          generalize e6 : zw_sI h 56 10 v5 = h6
          have K := K h6 e6.symm
          refine zw_iinc (v := (v5 + (1 : Int32))) 5 dX8_nearestBounds_130 rfl rfl (by decide) rfl rfl ?_
          refine zw_goto (np := 6) dX8_nearestBounds_133 (by decide) ?_
          exact zw.sub [2, 3, 4, 5, 1, 0] rfl K
      · have K := K.2 c
        refine zw_iconst (v := (1 : Int32)) dX8_nearestBounds_104 (by decide) rfl ?_
        refine zw_goto (np := 109) dX8_nearestBounds_105 (by decide) ?_
        refine zw_iadd dX8_nearestBounds_109 rfl ?_
        refine zw_istore dX8_nearestBounds_110 (by decide) rfl rfl ?_
        refine zw_aload_n 1 dX8_nearestBounds_112 rfl rfl rfl ?_
        refine zw_iload 6 dX8_nearestBounds_113 rfl rfl ?_
        refine zw_if_eq (tg := 123) dX8_nearestBounds_115 (by decide) rfl (fun c => ?_) (fun c => ?_)
        · have K := K.1 c
          refine zw_aload_n 1 dX8_nearestBounds_123 rfl rfl rfl ?_
          refine zw_getI f_X8_179 dX8_nearestBounds_124 zs_56 rfl rfl ?_
          refine zw_putI f_X8_179 cl_X8 rfl ⟨rfl, rfl⟩ dX8_nearestBounds_127 zs_56 rfl rfl ?_
          generalize e7 : zw_sI h 56 10 (h.1 56 10) = h7
          have K := K h7 e7.symm
          refine zw_iinc (v := (v5 + (1 : Int32))) 5 dX8_nearestBounds_130 rfl rfl (by decide) rfl rfl ?_
          refine zw_goto (np := 6) dX8_nearestBounds_133 (by decide) ?_
          exact zw.sub [2, 3, 4, 5, 1, 0] rfl K
        · have K := K.2 c
          refine zw_iload 5 dX8_nearestBounds_118 rfl rfl ?_
          refine zw_goto (np := 127) dX8_nearestBounds_120 (by decide) ?_
          refine zw_putI f_X8_179 cl_X8 rfl ⟨rfl, rfl⟩ dX8_nearestBounds_127 zs_56 rfl rfl ?_
          generalize e8 : zw_sI h 56 10 v5 = h8
          have K := K h8 e8.symm
          refine zw_iinc (v := (v5 + (1 : Int32))) 5 dX8_nearestBounds_130 rfl rfl (by decide) rfl rfl ?_
          refine zw_goto (np := 6) dX8_nearestBounds_133 (by decide) ?_
          exact zw.sub [2, 3, 4, 5, 1, 0] rfl K
    · have K := K.2 c
      refine zw_aload_n 0 dX8_nearestBounds_43 rfl rfl rfl ?_
      refine zw_iload 7 dX8_nearestBounds_44 rfl rfl ?_
      refine zw_iload_n 1 dX8_nearestBounds_46 rfl rfl rfl ?_
      refine zw_iload_n 2 dX8_nearestBounds_47 rfl rfl rfl ?_
      refine zw_iload_n 3 dX8_nearestBounds_48 rfl rfl rfl ?_
      obtain ⟨q9, ct, K⟩ := K
      refine zw_callV (n := 4) (As := [.int v7, .int v1, .int v2, .int v3]) (rest := []) ct my_X8_isBound rfl rfl k_X8_175 i_X8_isBound s_X8_isBound zs_56 rfl dX8_nearestBounds_49 (by decide) (Nat.le_of_ble_eq_true rfl) (Nat.le_refl 0) (Nat.le_refl 0) rfl (fun r s1 h9 hq => ?_)
      obtain ⟨x9, rfl, rfl, hq⟩ := hq
      have K := K x9 h9 hq
      refine zw.st (st' := [.int x9]) rfl ?_
      refine zw_if_eq (tg := 84) dX8_nearestBounds_52 (by decide) rfl (fun c => ?_) (fun c => ?_)
      · have K := K.1 c
        refine zw_iconst (v := (1 : Int32)) dX8_nearestBounds_84 (by decide) rfl ?_
        refine zw_goto (np := 89) dX8_nearestBounds_85 (by decide) ?_
        refine zw_istore dX8_nearestBounds_89 (by decide) rfl rfl ?_
        refine zw_iinc (v := (v7 + (1 : Int32))) 7 dX8_nearestBounds_91 rfl rfl (by decide) rfl rfl ?_
        refine zw_goto (np := 29) dX8_nearestBounds_94 (by decide) ?_
        exact zw.sub [2, 3, 4, 5, 6, 7, 1, 0] rfl K
      · have K := K.2 c
        refine zw_iload_n 3 dX8_nearestBounds_55 rfl rfl rfl ?_
        refine zw_if_eq (tg := 73) dX8_nearestBounds_56 (by decide) rfl (fun c => ?_) (fun c => ?_)
        · have K := K.1 c
          refine zw_aload_n 0 dX8_nearestBounds_73 rfl rfl rfl ?_
          refine zw_iload 7 dX8_nearestBounds_74 rfl rfl ?_
          refine zw_iload 5 dX8_nearestBounds_76 rfl rfl ?_
          obtain ⟨q10, ct, K⟩ := K
          refine zw_callV (n := 2) (As := [.int v7, .int v5]) (rest := []) ct my_X8_isStrictly rfl rfl k_X8_169 i_X8_isStrictly s_X8_isStrictly zs_56 rfl dX8_nearestBounds_78 (by decide) (Nat.le_of_ble_eq_true rfl) (Nat.le_refl 0) (Nat.le_refl 0) rfl (fun r s1 h10 hq => ?_)
          obtain ⟨x10, rfl, rfl, hq⟩ := hq
          have K := K x10 h10 hq
          refine zw.st (st' := [.int x10]) rfl ?_
          refine zw_if_ne (tg := 88) dX8_nearestBounds_81 (by decide) rfl (fun c => ?_) (fun c => ?_)
          · have K := K.1 c
            refine zw_iconst (v := (0 : Int32)) dX8_nearestBounds_88 (by decide) rfl ?_
            refine zw_istore dX8_nearestBounds_89 (by decide) rfl rfl ?_
            refine zw_iinc (v := (v7 + (1 : Int32))) 7 dX8_nearestBounds_91 rfl rfl (by decide) rfl rfl ?_
            refine zw_goto (np := 29) dX8_nearestBounds_94 (by decide) ?_
            exact zw.sub [2, 3, 4, 5, 6, 7, 1, 0] rfl K
          · have K := K.2 c
            refine zw_iconst (v := (1 : Int32)) dX8_nearestBounds_84 (by decide) rfl ?_
            refine zw_goto (np := 89) dX8_nearestBounds_85 (by decide) ?_
            refine zw_istore dX8_nearestBounds_89 (by decide) rfl rfl ?_
            refine zw_iinc (v := (v7 + (1 : Int32))) 7 dX8_nearestBounds_91 rfl rfl (by decide) rfl rfl ?_
            refine zw_goto (np := 29) dX8_nearestBounds_94 (by decide) ?_
            exact zw.sub [2, 3, 4, 5, 6, 7, 1, 0] rfl K
        · have K := K.2 c
          refine zw_aload_n 0 dX8_nearestBounds_59 rfl rfl rfl ?_
          refine zw_iload 5 dX8_nearestBounds_60 rfl rfl ?_
          refine zw_iload 7 dX8_nearestBounds_62 rfl rfl ?_
          obtain ⟨q11, ct, K⟩ := K
          refine zw_callV (n := 2) (As := [.int v5, .int v7]) (rest := []) ct my_X8_isStrictly rfl rfl k_X8_169 i_X8_isStrictly s_X8_isStrictly zs_56 rfl dX8_nearestBounds_64 (by decide) (Nat.le_of_ble_eq_true rfl) (Nat.le_refl 0) (Nat.le_refl 0) rfl (fun r s1 h11 hq => ?_)
          obtain ⟨x11, rfl, rfl, hq⟩ := hq
          have K := K x11 h11 hq
          refine zw.st (st' := [.int x11]) rfl ?_
          refine zw_if_eq (tg := 84) dX8_nearestBounds_67 (by decide) rfl (fun c => ?_) (fun c => ?_)
          · have K := K.1 c
            refine zw_iconst (v := (1 : Int32)) dX8_nearestBounds_84 (by decide) rfl ?_
            refine zw_goto (np := 89) dX8_nearestBounds_85 (by decide) ?_
            refine zw_istore dX8_nearestBounds_89 (by decide) rfl rfl ?_
            refine zw_iinc (v := (v7 + (1 : Int32))) 7 dX8_nearestBounds_91 rfl rfl (by decide) rfl rfl ?_
            refine zw_goto (np := 29) dX8_nearestBounds_94 (by decide) ?_
            exact zw.sub [2, 3, 4, 5, 6, 7, 1, 0] rfl K
          · have K := K.2 c
            refine zw_goto (np := 88) dX8_nearestBounds_70 (by decide) ?_
            refine zw_iconst (v := (0 : Int32)) dX8_nearestBounds_88 (by decide) rfl ?_
            refine zw_istore dX8_nearestBounds_89 (by decide) rfl rfl ?_
            refine zw_iinc (v := (v7 + (1 : Int32))) 7 dX8_nearestBounds_91 rfl rfl (by decide) rfl rfl ?_
            refine zw_goto (np := 29) dX8_nearestBounds_94 (by decide) ?_
            exact zw.sub [2, 3, 4, 5, 6, 7, 1, 0] rfl K

set_option maxRecDepth 100000 in
set_option maxHeartbeats 4000000 in
theorem rX8_bounds_0 {q : Int32 → zw_H → Prop} {h : zw_H} {v1 v2 v3 : Int32} (K : (∃ q1 : Int32 → zw_H → Prop, zcI 2 mX8_wrongOf [.ref 56, .int v1, .int v2] h q1 ∧ (∀ (x1 : Int32) (h1 : zw_H), q1 x1 h1 → ((x1 = 0 → (∃ q2 : Int32 → zw_H → Prop, zcI 0 mX8_held [.ref 56, .int v1] h1 q2 ∧ (∀ (x2 : Int32) (h2 : zw_H), q2 x2 h2 → (∃ q3 : Int32 → zw_H → Prop, zcI 0 mX8_held [.ref 56, .int v2] h2 q3 ∧ (∀ (x3 : Int32) (h3 : zw_H), q3 x3 h3 → (∃ q4 : Int32 → zw_H → Prop, zcI 3 mX8_nearestBounds [.ref 56, .int x2, .int x3, .int v3] h3 q4 ∧ (∀ (x4 : Int32) (h4 : zw_H), q4 x4 h4 → q x4 h4))))))) ∧ (¬ x1 = 0 → q x1 h1))))) : zwI 4 mX8_bounds q 0 [(0, .ref 56), (1, .int v1), (2, .int v2), (3, .int v3)] [] h := by
  refine zw_aload_n 0 dX8_bounds_0 rfl rfl rfl ?_
  refine zw_iload_n 1 dX8_bounds_1 rfl rfl rfl ?_
  refine zw_iload_n 2 dX8_bounds_2 rfl rfl rfl ?_
  obtain ⟨q1, ct, K⟩ := K
  refine zw_callV (n := 2) (As := [.int v1, .int v2]) (rest := []) ct my_X8_wrongOf rfl rfl k_X8_134 i_X8_wrongOf s_X8_wrongOf zs_56 rfl dX8_bounds_3 (by decide) (Nat.le_of_ble_eq_true rfl) (Nat.le_refl 0) (Nat.le_refl 0) rfl (fun r s1 h1 hq => ?_)
  obtain ⟨x1, rfl, rfl, hq⟩ := hq
  have K := K x1 h1 hq
  refine zw.st (st' := [.int x1]) rfl ?_
  refine zw_istore dX8_bounds_6 (by decide) rfl rfl ?_
  refine zw_iload 0 dX8_bounds_8 rfl rfl ?_
  refine zw_if_eq (tg := 18) dX8_bounds_10 (by decide) rfl (fun c => ?_) (fun c => ?_)
  · have K := K.1 c
    refine zw_aload_n 1 dX8_bounds_18 rfl rfl rfl ?_
    refine zw_aload_n 1 dX8_bounds_19 rfl rfl rfl ?_
    refine zw_iload_n 2 dX8_bounds_20 rfl rfl rfl ?_
    obtain ⟨q2, ct, K⟩ := K
    refine zw_callV (n := 1) (As := [.int v1]) (rest := [.ref 56]) ct my_X8_held rfl rfl k_X8_128 i_X8_held s_X8_held zs_56 rfl dX8_bounds_21 (by decide) (Nat.le_of_ble_eq_true rfl) (Nat.le_refl 0) (Nat.le_refl 0) rfl (fun r s1 h2 hq => ?_)
    obtain ⟨x2, rfl, rfl, hq⟩ := hq
    have K := K x2 h2 hq
    refine zw.st (st' := [.int x2, .ref 56]) rfl ?_
    refine zw_aload_n 1 dX8_bounds_24 rfl rfl rfl ?_
    refine zw_iload_n 3 dX8_bounds_25 rfl rfl rfl ?_
    obtain ⟨q3, ct, K⟩ := K
    refine zw_callV (n := 1) (As := [.int v2]) (rest := [.int x2, .ref 56]) ct my_X8_held rfl rfl k_X8_128 i_X8_held s_X8_held zs_56 rfl dX8_bounds_26 (by decide) (Nat.le_of_ble_eq_true rfl) (Nat.le_refl 0) (Nat.le_refl 0) rfl (fun r s1 h3 hq => ?_)
    obtain ⟨x3, rfl, rfl, hq⟩ := hq
    have K := K x3 h3 hq
    refine zw.st (st' := [.int x3, .int x2, .ref 56]) rfl ?_
    refine zw_iload_n 4 dX8_bounds_29 rfl rfl rfl ?_
    obtain ⟨q4, ct, K⟩ := K
    refine zw_callV (n := 3) (As := [.int x2, .int x3, .int v3]) (rest := []) ct my_X8_nearestBounds rfl rfl k_X8_182 i_X8_nearestBounds s_X8_nearestBounds zs_56 rfl dX8_bounds_30 (by decide) (Nat.le_of_ble_eq_true rfl) (Nat.le_refl 0) (Nat.le_refl 0) rfl (fun r s1 h4 hq => ?_)
    obtain ⟨x4, rfl, rfl, hq⟩ := hq
    have K := K x4 h4 hq
    refine zw.st (st' := [.int x4]) rfl ?_
    exact zw_ireturn (ty := .int) dX8_bounds_33 rfl rfl (Nat.le_refl 0) (Nat.le_refl 0) ⟨_, rfl, rfl, K⟩
  · have K := K.2 c
    refine zw_iload 0 dX8_bounds_13 rfl rfl ?_
    refine zw_goto (np := 33) dX8_bounds_15 (by decide) ?_
    exact zw_ireturn (ty := .int) dX8_bounds_33 rfl rfl (Nat.le_refl 0) (Nat.le_refl 0) ⟨_, rfl, rfl, K⟩

set_option maxRecDepth 100000 in
set_option maxHeartbeats 4000000 in
theorem rX8_bound_0 {q : Int32 → zw_H → Prop} {h : zw_H} {v1 v2 v3 v4 : Int32} (K : (∃ q1 : Int32 → zw_H → Prop, zcI 1 mX8_isRegister [.int v4] h q1 ∧ (∀ (x1 : Int32) (h1 : zw_H), q1 x1 h1 → ((¬ x1 = 0 → (∃ q2 : Int32 → zw_H → Prop, zcI 2 mX8_wrongOf [.ref 56, .int v1, .int v2] h1 q2 ∧ (∀ (x2 : Int32) (h2 : zw_H), q2 x2 h2 → ((x2 = 0 → (∃ q3 : Int32 → zw_H → Prop, zcI 0 mX8_held [.ref 56, .int v1] h2 q3 ∧ (∀ (x3 : Int32) (h3 : zw_H), q3 x3 h3 → (∃ q4 : Int32 → zw_H → Prop, zcI 0 mX8_held [.ref 56, .int v2] h3 q4 ∧ (∀ (x4 : Int32) (h4 : zw_H), q4 x4 h4 → (∃ q5 : Int32 → zw_H → Prop, zcI 3 mX8_nearestBounds [.ref 56, .int x3, .int x4, .int v3] h4 q5 ∧ (∀ (x5 : Int32) (h5 : zw_H), q5 x5 h5 → ((x5 = (1 : Int32) → (∃ q6 : Int32 → zw_H → Prop, zcI 1 mX8_puts [.ref 56, .int v4, .int (h5.1 56 10)] h5 q6 ∧ (∀ (x6 : Int32) (h6 : zw_H), q6 x6 h6 → (∃ j7 : Nat, (h6.1 56 10) = nI j7 ∧ j7 < 203 ∧ q (h6.1 61 j7) h6)))) ∧ (¬ x5 = (1 : Int32) → q (-3 : Int32) h5))))))))) ∧ (¬ x2 = 0 → q x2 h2))))) ∧ (x1 = 0 → q (-1 : Int32) h1))))) : zwI 4 mX8_bound q 0 [(0, .ref 56), (1, .int v1), (2, .int v2), (3, .int v3), (4, .int v4)] [] h := by
  refine zw_iload 4 dX8_bound_0 rfl rfl ?_
  obtain ⟨q1, ct, K⟩ := K
  refine zw_callS (n := 1) (As := [.int v4]) (rest := []) ct my_X8_isRegister rfl rfl k_X8_115 t_X8_isRegister dX8_bound_2 (by decide) (Nat.le_of_ble_eq_true rfl) (Nat.le_refl 0) (Nat.le_refl 0) rfl (fun r s1 h1 hq => ?_)
  obtain ⟨x1, rfl, rfl, hq⟩ := hq
  have K := K x1 h1 hq
  refine zw.st (st' := [.int x1]) rfl ?_
  refine zw_if_ne (tg := 10) dX8_bound_5 (by decide) rfl (fun c => ?_) (fun c => ?_)
  · have K := K.1 c
    refine zw_aload_n 0 dX8_bound_10 rfl rfl rfl ?_
    refine zw_iload_n 1 dX8_bound_11 rfl rfl rfl ?_
    refine zw_iload_n 2 dX8_bound_12 rfl rfl rfl ?_
    obtain ⟨q2, ct, K⟩ := K
    refine zw_callV (n := 2) (As := [.int v1, .int v2]) (rest := []) ct my_X8_wrongOf rfl rfl k_X8_134 i_X8_wrongOf s_X8_wrongOf zs_56 rfl dX8_bound_13 (by decide) (Nat.le_of_ble_eq_true rfl) (Nat.le_refl 0) (Nat.le_refl 0) rfl (fun r s1 h2 hq => ?_)
    obtain ⟨x2, rfl, rfl, hq⟩ := hq
    have K := K x2 h2 hq
    refine zw.st (st' := [.int x2]) rfl ?_
    refine zw_istore dX8_bound_16 (by decide) rfl rfl ?_
    refine zw_iload 0 dX8_bound_18 rfl rfl ?_
    refine zw_if_eq (tg := 26) dX8_bound_20 (by decide) rfl (fun c => ?_) (fun c => ?_)
    · have K := K.1 c
      refine zw_aload_n 1 dX8_bound_26 rfl rfl rfl ?_
      refine zw_aload_n 1 dX8_bound_27 rfl rfl rfl ?_
      refine zw_iload_n 2 dX8_bound_28 rfl rfl rfl ?_
      obtain ⟨q3, ct, K⟩ := K
      refine zw_callV (n := 1) (As := [.int v1]) (rest := [.ref 56]) ct my_X8_held rfl rfl k_X8_128 i_X8_held s_X8_held zs_56 rfl dX8_bound_29 (by decide) (Nat.le_of_ble_eq_true rfl) (Nat.le_refl 0) (Nat.le_refl 0) rfl (fun r s1 h3 hq => ?_)
      obtain ⟨x3, rfl, rfl, hq⟩ := hq
      have K := K x3 h3 hq
      refine zw.st (st' := [.int x3, .ref 56]) rfl ?_
      refine zw_aload_n 1 dX8_bound_32 rfl rfl rfl ?_
      refine zw_iload_n 3 dX8_bound_33 rfl rfl rfl ?_
      obtain ⟨q4, ct, K⟩ := K
      refine zw_callV (n := 1) (As := [.int v2]) (rest := [.int x3, .ref 56]) ct my_X8_held rfl rfl k_X8_128 i_X8_held s_X8_held zs_56 rfl dX8_bound_34 (by decide) (Nat.le_of_ble_eq_true rfl) (Nat.le_refl 0) (Nat.le_refl 0) rfl (fun r s1 h4 hq => ?_)
      obtain ⟨x4, rfl, rfl, hq⟩ := hq
      have K := K x4 h4 hq
      refine zw.st (st' := [.int x4, .int x3, .ref 56]) rfl ?_
      refine zw_iload_n 4 dX8_bound_37 rfl rfl rfl ?_
      obtain ⟨q5, ct, K⟩ := K
      refine zw_callV (n := 3) (As := [.int x3, .int x4, .int v3]) (rest := []) ct my_X8_nearestBounds rfl rfl k_X8_182 i_X8_nearestBounds s_X8_nearestBounds zs_56 rfl dX8_bound_38 (by decide) (Nat.le_of_ble_eq_true rfl) (Nat.le_refl 0) (Nat.le_refl 0) rfl (fun r s1 h5 hq => ?_)
      obtain ⟨x5, rfl, rfl, hq⟩ := hq
      have K := K x5 h5 hq
      refine zw.st (st' := [.int x5]) rfl ?_
      refine zw_iconst (v := (1 : Int32)) dX8_bound_41 (by decide) rfl ?_
      refine zw_icmp_eq (tg := 48) dX8_bound_42 (by decide) rfl (fun c => ?_) (fun c => ?_)
      · have K := K.1 c
        refine zw_aload_n 1 dX8_bound_48 rfl rfl rfl ?_
        refine zw_iload 5 dX8_bound_49 rfl rfl ?_
        refine zw_aload_n 1 dX8_bound_51 rfl rfl rfl ?_
        refine zw_getI f_X8_179 dX8_bound_52 zs_56 rfl rfl ?_
        obtain ⟨q6, ct, K⟩ := K
        refine zw_callV (n := 2) (As := [.int v4, .int (h5.1 56 10)]) (rest := []) ct my_X8_puts rfl rfl k_X8_125 i_X8_puts s_X8_puts zs_56 rfl dX8_bound_55 (by decide) (Nat.le_of_ble_eq_true rfl) (Nat.le_refl 0) (Nat.le_refl 0) rfl (fun r s1 h6 hq => ?_)
        obtain ⟨x6, rfl, rfl, hq⟩ := hq
        have K := K x6 h6 hq
        refine zw.st (st' := [.int x6]) rfl ?_
        refine zw_pop dX8_bound_58 rfl rfl ?_
        refine zw_aload_n 1 dX8_bound_59 rfl rfl rfl ?_
        refine zw_getR f_X8_22 dX8_bound_60 zs_56 rfl rfl ?_
        refine zw_aload_n 1 dX8_bound_63 rfl rfl rfl ?_
        refine zw_getI f_X8_179 dX8_bound_64 zs_56 rfl rfl ?_
        obtain ⟨j7, hj7, hn7, K⟩ := K
        refine zw_iald j7 dX8_bound_67 zs_61 ⟨hj7, hn7⟩ (by decide) rfl ?_
        exact zw_ireturn (ty := .int) dX8_bound_68 rfl rfl (Nat.le_refl 0) (Nat.le_refl 0) ⟨_, rfl, rfl, K⟩
      · have K := K.2 c
        refine zw_bipush (v := (-3 : Int32)) dX8_bound_45 (by decide) rfl ?_
        exact zw_ireturn (ty := .int) dX8_bound_47 rfl rfl (Nat.le_refl 0) (Nat.le_refl 0) ⟨_, rfl, rfl, K⟩
    · have K := K.2 c
      refine zw_iload 0 dX8_bound_23 rfl rfl ?_
      exact zw_ireturn (ty := .int) dX8_bound_25 rfl rfl (Nat.le_refl 0) (Nat.le_refl 0) ⟨_, rfl, rfl, K⟩
  · have K := K.2 c
    refine zw_iconst (v := (-1 : Int32)) dX8_bound_8 (by decide) rfl ?_
    exact zw_ireturn (ty := .int) dX8_bound_9 rfl rfl (Nat.le_refl 0) (Nat.le_refl 0) ⟨_, rfl, rfl, K⟩

set_option maxRecDepth 100000 in
set_option maxHeartbeats 4000000 in
theorem rX8_isBetween_0 {q : Int32 → zw_H → Prop} {h : zw_H} {v1 v2 v3 : Int32} (K : (∃ q1 : Int32 → zw_H → Prop, zcI 0 mX8_isAdmitted [.ref 56, .int v1] h q1 ∧ (∀ (x1 : Int32) (h1 : zw_H), q1 x1 h1 → ((x1 = 0 → q (0 : Int32) h1) ∧ (¬ x1 = 0 → (∃ q2 : Int32 → zw_H → Prop, zcI 1 mX8_isBelow [.ref 56, .int v2, .int v1] h1 q2 ∧ (∀ (x2 : Int32) (h2 : zw_H), q2 x2 h2 → ((x2 = 0 → q (0 : Int32) h2) ∧ (¬ x2 = 0 → (∃ q3 : Int32 → zw_H → Prop, zcI 1 mX8_isBelow [.ref 56, .int v1, .int v3] h2 q3 ∧ (∀ (x3 : Int32) (h3 : zw_H), q3 x3 h3 → ((x3 = 0 → q (0 : Int32) h3) ∧ (¬ x3 = 0 → q (1 : Int32) h3))))))))))))) : zwI 2 mX8_isBetween q 0 [(0, .ref 56), (1, .int v1), (2, .int v2), (3, .int v3)] [] h := by
  refine zw_aload_n 0 dX8_isBetween_0 rfl rfl rfl ?_
  refine zw_iload_n 1 dX8_isBetween_1 rfl rfl rfl ?_
  obtain ⟨q1, ct, K⟩ := K
  refine zw_callV (n := 1) (As := [.int v1]) (rest := []) ct my_X8_isAdmitted rfl rfl k_X8_150 i_X8_isAdmitted s_X8_isAdmitted zs_56 rfl dX8_isBetween_2 (by decide) (Nat.le_of_ble_eq_true rfl) (Nat.le_refl 0) (Nat.le_refl 0) rfl (fun r s1 h1 hq => ?_)
  obtain ⟨x1, rfl, rfl, hq⟩ := hq
  have K := K x1 h1 hq
  refine zw.st (st' := [.int x1]) rfl ?_
  refine zw_if_eq (tg := 30) dX8_isBetween_5 (by decide) rfl (fun c => ?_) (fun c => ?_)
  · have K := K.1 c
    refine zw_iconst (v := (0 : Int32)) dX8_isBetween_30 (by decide) rfl ?_
    exact zw_ireturn (ty := .boolean) dX8_isBetween_31 rfl rfl (Nat.le_refl 0) (Nat.le_refl 0) ⟨_, rfl, rfl, K⟩
  · have K := K.2 c
    refine zw_aload_n 0 dX8_isBetween_8 rfl rfl rfl ?_
    refine zw_iload_n 2 dX8_isBetween_9 rfl rfl rfl ?_
    refine zw_iload_n 1 dX8_isBetween_10 rfl rfl rfl ?_
    obtain ⟨q2, ct, K⟩ := K
    refine zw_callV (n := 2) (As := [.int v2, .int v1]) (rest := []) ct my_X8_isBelow rfl rfl k_X8_89 i_X8_isBelow s_X8_isBelow zs_56 rfl dX8_isBetween_11 (by decide) (Nat.le_of_ble_eq_true rfl) (Nat.le_refl 0) (Nat.le_refl 0) rfl (fun r s1 h2 hq => ?_)
    obtain ⟨x2, rfl, rfl, hq⟩ := hq
    have K := K x2 h2 hq
    refine zw.st (st' := [.int x2]) rfl ?_
    refine zw_if_eq (tg := 30) dX8_isBetween_14 (by decide) rfl (fun c => ?_) (fun c => ?_)
    · have K := K.1 c
      refine zw_iconst (v := (0 : Int32)) dX8_isBetween_30 (by decide) rfl ?_
      exact zw_ireturn (ty := .boolean) dX8_isBetween_31 rfl rfl (Nat.le_refl 0) (Nat.le_refl 0) ⟨_, rfl, rfl, K⟩
    · have K := K.2 c
      refine zw_aload_n 0 dX8_isBetween_17 rfl rfl rfl ?_
      refine zw_iload_n 1 dX8_isBetween_18 rfl rfl rfl ?_
      refine zw_iload_n 3 dX8_isBetween_19 rfl rfl rfl ?_
      obtain ⟨q3, ct, K⟩ := K
      refine zw_callV (n := 2) (As := [.int v1, .int v3]) (rest := []) ct my_X8_isBelow rfl rfl k_X8_89 i_X8_isBelow s_X8_isBelow zs_56 rfl dX8_isBetween_20 (by decide) (Nat.le_of_ble_eq_true rfl) (Nat.le_refl 0) (Nat.le_refl 0) rfl (fun r s1 h3 hq => ?_)
      obtain ⟨x3, rfl, rfl, hq⟩ := hq
      have K := K x3 h3 hq
      refine zw.st (st' := [.int x3]) rfl ?_
      refine zw_if_eq (tg := 30) dX8_isBetween_23 (by decide) rfl (fun c => ?_) (fun c => ?_)
      · have K := K.1 c
        refine zw_iconst (v := (0 : Int32)) dX8_isBetween_30 (by decide) rfl ?_
        exact zw_ireturn (ty := .boolean) dX8_isBetween_31 rfl rfl (Nat.le_refl 0) (Nat.le_refl 0) ⟨_, rfl, rfl, K⟩
      · have K := K.2 c
        refine zw_iconst (v := (1 : Int32)) dX8_isBetween_26 (by decide) rfl ?_
        refine zw_goto (np := 31) dX8_isBetween_27 (by decide) ?_
        exact zw_ireturn (ty := .boolean) dX8_isBetween_31 rfl rfl (Nat.le_refl 0) (Nat.le_refl 0) ⟨_, rfl, rfl, K⟩

set_option maxRecDepth 100000 in
set_option maxHeartbeats 4000000 in
theorem rX8_interval_0 {q : Int32 → zw_H → Prop} {h : zw_H} {v1 v2 : Int32} (K : (∃ q1 : Int32 → zw_H → Prop, zcI 2 mX8_wrongOf [.ref 56, .int v1, .int v2] h q1 ∧ (∀ (x1 : Int32) (h1 : zw_H), q1 x1 h1 → ((x1 = 0 → zwI 3 mX8_interval q 19 [(0, .ref 56), (1, .int v1), (2, .int v2), (4, .int (0 : Int32)), (5, .int (0 : Int32))] [] h1) ∧ (¬ x1 = 0 → q x1 h1))))) : zwI 3 mX8_interval q 0 [(0, .ref 56), (1, .int v1), (2, .int v2)] [] h := by
  refine zw_aload_n 0 dX8_interval_0 rfl rfl rfl ?_
  refine zw_iload_n 1 dX8_interval_1 rfl rfl rfl ?_
  refine zw_iload_n 2 dX8_interval_2 rfl rfl rfl ?_
  obtain ⟨q1, ct, K⟩ := K
  refine zw_callV (n := 2) (As := [.int v1, .int v2]) (rest := []) ct my_X8_wrongOf rfl rfl k_X8_134 i_X8_wrongOf s_X8_wrongOf zs_56 rfl dX8_interval_3 (by decide) (Nat.le_of_ble_eq_true rfl) (Nat.le_refl 0) (Nat.le_refl 0) rfl (fun r s1 h1 hq => ?_)
  obtain ⟨x1, rfl, rfl, hq⟩ := hq
  have K := K x1 h1 hq
  refine zw.st (st' := [.int x1]) rfl ?_
  refine zw_istore_n dX8_interval_6 rfl (by decide) rfl rfl ?_
  refine zw_iload_n 0 dX8_interval_7 rfl rfl rfl ?_
  refine zw_if_eq (tg := 13) dX8_interval_8 (by decide) rfl (fun c => ?_) (fun c => ?_)
  · have K := K.1 c
    refine zw_iconst (v := (0 : Int32)) dX8_interval_13 (by decide) rfl ?_
    refine zw_istore dX8_interval_14 (by decide) rfl rfl ?_
    refine zw_iconst (v := (0 : Int32)) dX8_interval_16 (by decide) rfl ?_
    refine zw_istore dX8_interval_17 (by decide) rfl rfl ?_
    exact zw.sub [3, 4, 5, 1, 0] rfl K
  · have K := K.2 c
    refine zw_iload_n 0 dX8_interval_11 rfl rfl rfl ?_
    exact zw_ireturn (ty := .int) dX8_interval_12 rfl rfl (Nat.le_refl 0) (Nat.le_refl 0) ⟨_, rfl, rfl, K⟩

set_option maxRecDepth 100000 in
set_option maxHeartbeats 4000000 in
theorem rX8_interval_19 {q : Int32 → zw_H → Prop} {h : zw_H} {v1 v2 v4 v5 : Int32} (K : (((h.1 56 7) ≤ v5 → q v4 h) ∧ (¬ (h.1 56 7) ≤ v5 → (∃ q1 : Int32 → zw_H → Prop, zcI 0 mX8_held [.ref 56, .int v1] h q1 ∧ (∀ (x1 : Int32) (h1 : zw_H), q1 x1 h1 → (∃ q2 : Int32 → zw_H → Prop, zcI 0 mX8_held [.ref 56, .int v2] h1 q2 ∧ (∀ (x2 : Int32) (h2 : zw_H), q2 x2 h2 → (∃ q3 : Int32 → zw_H → Prop, zcI 2 mX8_isBetween [.ref 56, .int v5, .int x1, .int x2] h2 q3 ∧ (∀ (x3 : Int32) (h3 : zw_H), q3 x3 h3 → ((x3 = 0 → zwI 3 mX8_interval q 19 [(0, .ref 56), (1, .int v1), (2, .int v2), (4, .int (v4 + (0 : Int32))), (5, .int (v5 + (1 : Int32)))] [] h3) ∧ (¬ x3 = 0 → zwI 3 mX8_interval q 19 [(0, .ref 56), (1, .int v1), (2, .int v2), (4, .int (v4 + (1 : Int32))), (5, .int (v5 + (1 : Int32)))] [] h3))))))))))) : zwI 3 mX8_interval q 19 [(0, .ref 56), (1, .int v1), (2, .int v2), (4, .int v4), (5, .int v5)] [] h := by
  refine zw_iload 4 dX8_interval_19 rfl rfl ?_
  refine zw_aload_n 0 dX8_interval_21 rfl rfl rfl ?_
  refine zw_getI f_X8_52 dX8_interval_22 zs_56 rfl rfl ?_
  refine zw_icmp_ge (tg := 63) dX8_interval_25 (by decide) rfl (fun c => ?_) (fun c => ?_)
  · have K := K.1 c
    refine zw_iload 3 dX8_interval_63 rfl rfl ?_
    exact zw_ireturn (ty := .int) dX8_interval_65 rfl rfl (Nat.le_refl 0) (Nat.le_refl 0) ⟨_, rfl, rfl, K⟩
  · have K := K.2 c
    refine zw_iload 3 dX8_interval_28 rfl rfl ?_
    refine zw_aload_n 0 dX8_interval_30 rfl rfl rfl ?_
    refine zw_iload 4 dX8_interval_31 rfl rfl ?_
    refine zw_aload_n 0 dX8_interval_33 rfl rfl rfl ?_
    refine zw_iload_n 1 dX8_interval_34 rfl rfl rfl ?_
    obtain ⟨q1, ct, K⟩ := K
    refine zw_callV (n := 1) (As := [.int v1]) (rest := [.int v5, .ref 56, .int v4]) ct my_X8_held rfl rfl k_X8_128 i_X8_held s_X8_held zs_56 rfl dX8_interval_35 (by decide) (Nat.le_of_ble_eq_true rfl) (Nat.le_refl 0) (Nat.le_refl 0) rfl (fun r s1 h1 hq => ?_)
    obtain ⟨x1, rfl, rfl, hq⟩ := hq
    have K := K x1 h1 hq
    refine zw.st (st' := [.int x1, .int v5, .ref 56, .int v4]) rfl ?_
    refine zw_aload_n 0 dX8_interval_38 rfl rfl rfl ?_
    refine zw_iload_n 2 dX8_interval_39 rfl rfl rfl ?_
    obtain ⟨q2, ct, K⟩ := K
    refine zw_callV (n := 1) (As := [.int v2]) (rest := [.int x1, .int v5, .ref 56, .int v4]) ct my_X8_held rfl rfl k_X8_128 i_X8_held s_X8_held zs_56 rfl dX8_interval_40 (by decide) (Nat.le_of_ble_eq_true rfl) (Nat.le_refl 0) (Nat.le_refl 0) rfl (fun r s1 h2 hq => ?_)
    obtain ⟨x2, rfl, rfl, hq⟩ := hq
    have K := K x2 h2 hq
    refine zw.st (st' := [.int x2, .int x1, .int v5, .ref 56, .int v4]) rfl ?_
    obtain ⟨q3, ct, K⟩ := K
    refine zw_callV (n := 3) (As := [.int v5, .int x1, .int x2]) (rest := [.int v4]) ct my_X8_isBetween rfl rfl k_X8_185 i_X8_isBetween s_X8_isBetween zs_56 rfl dX8_interval_43 (by decide) (Nat.le_of_ble_eq_true rfl) (Nat.le_refl 0) (Nat.le_refl 0) rfl (fun r s1 h3 hq => ?_)
    obtain ⟨x3, rfl, rfl, hq⟩ := hq
    have K := K x3 h3 hq
    refine zw.st (st' := [.int x3, .int v4]) rfl ?_
    refine zw_if_eq (tg := 53) dX8_interval_46 (by decide) rfl (fun c => ?_) (fun c => ?_)
    · have K := K.1 c
      refine zw_iconst (v := (0 : Int32)) dX8_interval_53 (by decide) rfl ?_
      refine zw_iadd dX8_interval_54 rfl ?_
      refine zw_istore dX8_interval_55 (by decide) rfl rfl ?_
      refine zw_iinc (v := (v5 + (1 : Int32))) 4 dX8_interval_57 rfl rfl (by decide) rfl rfl ?_
      refine zw_goto (np := 19) dX8_interval_60 (by decide) ?_
      exact zw.sub [2, 3, 4, 1, 0] rfl K
    · have K := K.2 c
      refine zw_iconst (v := (1 : Int32)) dX8_interval_49 (by decide) rfl ?_
      refine zw_goto (np := 54) dX8_interval_50 (by decide) ?_
      refine zw_iadd dX8_interval_54 rfl ?_
      refine zw_istore dX8_interval_55 (by decide) rfl rfl ?_
      refine zw_iinc (v := (v5 + (1 : Int32))) 4 dX8_interval_57 rfl rfl (by decide) rfl rfl ?_
      refine zw_goto (np := 19) dX8_interval_60 (by decide) ?_
      exact zw.sub [2, 3, 4, 1, 0] rfl K

set_option maxRecDepth 100000 in
set_option maxHeartbeats 4000000 in
theorem rX8_moebiuses_0 {q : zw_H → Prop} {h : zw_H} {v1 v2 : Int32} (K : zwV 3 mX8_moebiuses q 2 [(0, .ref 56), (1, .int v1), (2, .int v2), (3, .int (0 : Int32))] [] h) : zwV 3 mX8_moebiuses q 0 [(0, .ref 56), (1, .int v1), (2, .int v2)] [] h := by
  refine zw_iconst (v := (0 : Int32)) dX8_moebiuses_0 (by decide) rfl ?_
  refine zw_istore_n dX8_moebiuses_1 rfl (by decide) rfl rfl ?_
  exact zw.sub [1, 2, 3, 0] rfl K

set_option maxRecDepth 100000 in
set_option maxHeartbeats 4000000 in
theorem rX8_moebiuses_2 {q : zw_H → Prop} {h : zw_H} {v1 v2 v3 : Int32} (K : (((6 : Int32) ≤ v3 → q h) ∧ (¬ (6 : Int32) ≤ v3 → zwV 3 mX8_moebiuses q 11 [(0, .ref 56), (1, .int v1), (2, .int v2), (3, .int v3), (4, .int (0 : Int32))] [] h))) : zwV 3 mX8_moebiuses q 2 [(0, .ref 56), (1, .int v1), (2, .int v2), (3, .int v3)] [] h := by
  refine zw_iload_n 3 dX8_moebiuses_2 rfl rfl rfl ?_
  refine zw_bipush (v := (6 : Int32)) dX8_moebiuses_3 (by decide) rfl ?_
  refine zw_icmp_ge (tg := 138) dX8_moebiuses_5 (by decide) rfl (fun c => ?_) (fun c => ?_)
  · have K := K.1 c
    exact zw_return dX8_moebiuses_138 rfl (Nat.le_refl 0) (Nat.le_refl 0) ⟨rfl, rfl, K⟩
  · have K := K.2 c
    refine zw_iconst (v := (0 : Int32)) dX8_moebiuses_8 (by decide) rfl ?_
    refine zw_istore dX8_moebiuses_9 (by decide) rfl rfl ?_
    exact zw.sub [1, 2, 3, 4, 0] rfl K

set_option maxRecDepth 100000 in
set_option maxHeartbeats 4000000 in
theorem rX8_moebiuses_11 {q : zw_H → Prop} {h : zw_H} {v1 v2 v3 v4 : Int32} (K : (((h.1 56 7) ≤ v4 → zwV 3 mX8_moebiuses q 2 [(0, .ref 56), (1, .int v1), (2, .int v2), (3, .int (v3 + (1 : Int32)))] [] h) ∧ (¬ (h.1 56 7) ≤ v4 → (∃ q1 : Int32 → zw_H → Prop, zcI 0 mX8_rank [.ref 56, .int v4] h q1 ∧ (∀ (x1 : Int32) (h1 : zw_H), q1 x1 h1 → ((¬ x1 = v3 → zwV 3 mX8_moebiuses q 11 [(0, .ref 56), (1, .int v1), (2, .int v2), (3, .int v3), (4, .int (v4 + (1 : Int32)))] [] h1) ∧ (x1 = v3 → ((¬ v4 = v1 → (∃ j2 : Nat, v4 = nI j2 ∧ j2 < 203 ∧ ∀ h3 : zw_H, h3 = zw_sL h1 63 j2 (0 : Int64) → zwV 3 mX8_moebiuses q 51 [(0, .ref 56), (1, .int v1), (2, .int v2), (3, .int v3), (4, .int v4), (5, .int (0 : Int32))] [] h3)) ∧ (v4 = v1 → (∃ j4 : Nat, v4 = nI j4 ∧ j4 < 203 ∧ ∀ h5 : zw_H, h5 = zw_sL h1 63 j4 (1 : Int64) → zwV 3 mX8_moebiuses q 51 [(0, .ref 56), (1, .int v1), (2, .int v2), (3, .int v3), (4, .int v4), (5, .int (0 : Int32))] [] h5)))))))))) : zwV 3 mX8_moebiuses q 11 [(0, .ref 56), (1, .int v1), (2, .int v2), (3, .int v3), (4, .int v4)] [] h := by
  refine zw_iload 4 dX8_moebiuses_11 rfl rfl ?_
  refine zw_aload_n 0 dX8_moebiuses_13 rfl rfl rfl ?_
  refine zw_getI f_X8_52 dX8_moebiuses_14 zs_56 rfl rfl ?_
  refine zw_icmp_ge (tg := 132) dX8_moebiuses_17 (by decide) rfl (fun c => ?_) (fun c => ?_)
  · have K := K.1 c
    refine zw_iinc (v := (v3 + (1 : Int32))) 3 dX8_moebiuses_132 rfl rfl (by decide) rfl rfl ?_
    refine zw_goto (np := 2) dX8_moebiuses_135 (by decide) ?_
    exact zw.sub [1, 2, 3, 0] rfl K
  · have K := K.2 c
    refine zw_aload_n 0 dX8_moebiuses_20 rfl rfl rfl ?_
    refine zw_iload 4 dX8_moebiuses_21 rfl rfl ?_
    obtain ⟨q1, ct, K⟩ := K
    refine zw_callV (n := 1) (As := [.int v4]) (rest := []) ct my_X8_rank rfl rfl k_X8_188 i_X8_rank s_X8_rank zs_56 rfl dX8_moebiuses_23 (by decide) (Nat.le_of_ble_eq_true rfl) (Nat.le_refl 0) (Nat.le_refl 0) rfl (fun r s1 h1 hq => ?_)
    obtain ⟨x1, rfl, rfl, hq⟩ := hq
    have K := K x1 h1 hq
    refine zw.st (st' := [.int x1]) rfl ?_
    refine zw_iload_n 3 dX8_moebiuses_26 rfl rfl rfl ?_
    refine zw_icmp_ne (tg := 126) dX8_moebiuses_27 (by decide) rfl (fun c => ?_) (fun c => ?_)
    · have K := K.1 c
      refine zw_iinc (v := (v4 + (1 : Int32))) 4 dX8_moebiuses_126 rfl rfl (by decide) rfl rfl ?_
      refine zw_goto (np := 11) dX8_moebiuses_129 (by decide) ?_
      exact zw.sub [1, 2, 3, 4, 0] rfl K
    · have K := K.2 c
      refine zw_aload_n 0 dX8_moebiuses_30 rfl rfl rfl ?_
      refine zw_getR f_X8_28 dX8_moebiuses_31 zs_56 rfl rfl ?_
      refine zw_iload 4 dX8_moebiuses_34 rfl rfl ?_
      refine zw_iload 4 dX8_moebiuses_36 rfl rfl ?_
      refine zw_iload_n 1 dX8_moebiuses_38 rfl rfl rfl ?_
      refine zw_icmp_ne (tg := 46) dX8_moebiuses_39 (by decide) rfl (fun c => ?_) (fun c => ?_)
      · have K := K.1 c
        refine zw_lconst (v := (0 : Int64)) dX8_moebiuses_46 (by decide) rfl ?_
        obtain ⟨j2, hj2, hn2, K⟩ := K
        refine zw_last j2 dX8_moebiuses_47 zs_63 ⟨hj2, hn2⟩ (by decide) rfl ?_
        generalize e3 : zw_sL h1 63 j2 (0 : Int64) = h3
        have K := K h3 e3.symm
        refine zw_iconst (v := (0 : Int32)) dX8_moebiuses_48 (by decide) rfl ?_
        refine zw_istore dX8_moebiuses_49 (by decide) rfl rfl ?_
        exact zw.sub [1, 2, 3, 4, 5, 0] rfl K
      · have K := K.2 c
        refine zw_lconst (v := (1 : Int64)) dX8_moebiuses_42 (by decide) rfl ?_
        refine zw_goto (np := 47) dX8_moebiuses_43 (by decide) ?_
        obtain ⟨j4, hj4, hn4, K⟩ := K
        refine zw_last j4 dX8_moebiuses_47 zs_63 ⟨hj4, hn4⟩ (by decide) rfl ?_
        generalize e5 : zw_sL h1 63 j4 (1 : Int64) = h5
        have K := K h5 e5.symm
        refine zw_iconst (v := (0 : Int32)) dX8_moebiuses_48 (by decide) rfl ?_
        refine zw_istore dX8_moebiuses_49 (by decide) rfl rfl ?_
        exact zw.sub [1, 2, 3, 4, 5, 0] rfl K

set_option maxRecDepth 100000 in
set_option maxHeartbeats 4000000 in
theorem rX8_moebiuses_51 {q : zw_H → Prop} {h : zw_H} {v1 v2 v3 v4 v5 : Int32} (K : (((h.1 56 7) ≤ v5 → zwV 3 mX8_moebiuses q 11 [(0, .ref 56), (1, .int v1), (2, .int v2), (3, .int v3), (4, .int (v4 + (1 : Int32)))] [] h) ∧ (¬ (h.1 56 7) ≤ v5 → ((v4 = v1 → zwV 3 mX8_moebiuses q 11 [(0, .ref 56), (1, .int v1), (2, .int v2), (3, .int v3), (4, .int (v4 + (1 : Int32)))] [] h) ∧ (¬ v4 = v1 → (∃ q1 : Int32 → zw_H → Prop, zcI 2 mX8_isBetween [.ref 56, .int v4, .int v1, .int v2] h q1 ∧ (∀ (x1 : Int32) (h1 : zw_H), q1 x1 h1 → ((x1 = 0 → zwV 3 mX8_moebiuses q 11 [(0, .ref 56), (1, .int v1), (2, .int v2), (3, .int v3), (4, .int (v4 + (1 : Int32)))] [] h1) ∧ (¬ x1 = 0 → (∃ j2 : Nat, v4 = nI j2 ∧ j2 < 203 ∧ (∃ q3 : Int32 → zw_H → Prop, zcI 2 mX8_isBetween [.ref 56, .int v5, .int v1, .int v2] h1 q3 ∧ (∀ (x3 : Int32) (h3 : zw_H), q3 x3 h3 → ((x3 = 0 → (∃ j4 : Nat, v4 = nI j4 ∧ j4 < 203 ∧ ∀ h5 : zw_H, h5 = zw_sL h3 63 j4 ((h1.2 63 j2) - (0 : Int64)) → zwV 3 mX8_moebiuses q 51 [(0, .ref 56), (1, .int v1), (2, .int v2), (3, .int v3), (4, .int v4), (5, .int (v5 + (1 : Int32)))] [] h5)) ∧ (¬ x3 = 0 → (∃ q6 : Int32 → zw_H → Prop, zcI 2 mX8_isStrictly [.ref 56, .int v5, .int v4] h3 q6 ∧ (∀ (x6 : Int32) (h6 : zw_H), q6 x6 h6 → ((x6 = 0 → (∃ j7 : Nat, v4 = nI j7 ∧ j7 < 203 ∧ ∀ h8 : zw_H, h8 = zw_sL h6 63 j7 ((h1.2 63 j2) - (0 : Int64)) → zwV 3 mX8_moebiuses q 51 [(0, .ref 56), (1, .int v1), (2, .int v2), (3, .int v3), (4, .int v4), (5, .int (v5 + (1 : Int32)))] [] h8)) ∧ (¬ x6 = 0 → (∃ j9 : Nat, v5 = nI j9 ∧ j9 < 203 ∧ (∃ j10 : Nat, v4 = nI j10 ∧ j10 < 203 ∧ ∀ h11 : zw_H, h11 = zw_sL h6 63 j10 ((h1.2 63 j2) - (h6.2 63 j9)) → zwV 3 mX8_moebiuses q 51 [(0, .ref 56), (1, .int v1), (2, .int v2), (3, .int v3), (4, .int v4), (5, .int (v5 + (1 : Int32)))] [] h11)))))))))))))))))))) : zwV 3 mX8_moebiuses q 51 [(0, .ref 56), (1, .int v1), (2, .int v2), (3, .int v3), (4, .int v4), (5, .int v5)] [] h := by
  refine zw_iload 5 dX8_moebiuses_51 rfl rfl ?_
  refine zw_aload_n 0 dX8_moebiuses_53 rfl rfl rfl ?_
  refine zw_getI f_X8_52 dX8_moebiuses_54 zs_56 rfl rfl ?_
  refine zw_icmp_ge (tg := 126) dX8_moebiuses_57 (by decide) rfl (fun c => ?_) (fun c => ?_)
  · have K := K.1 c
    refine zw_iinc (v := (v4 + (1 : Int32))) 4 dX8_moebiuses_126 rfl rfl (by decide) rfl rfl ?_
    refine zw_goto (np := 11) dX8_moebiuses_129 (by decide) ?_
    exact zw.sub [1, 2, 3, 4, 0] rfl K
  · have K := K.2 c
    refine zw_iload 4 dX8_moebiuses_60 rfl rfl ?_
    refine zw_iload_n 1 dX8_moebiuses_62 rfl rfl rfl ?_
    refine zw_icmp_eq (tg := 126) dX8_moebiuses_63 (by decide) rfl (fun c => ?_) (fun c => ?_)
    · have K := K.1 c
      refine zw_iinc (v := (v4 + (1 : Int32))) 4 dX8_moebiuses_126 rfl rfl (by decide) rfl rfl ?_
      refine zw_goto (np := 11) dX8_moebiuses_129 (by decide) ?_
      exact zw.sub [1, 2, 3, 4, 0] rfl K
    · have K := K.2 c
      refine zw_aload_n 0 dX8_moebiuses_66 rfl rfl rfl ?_
      refine zw_iload 4 dX8_moebiuses_67 rfl rfl ?_
      refine zw_iload_n 1 dX8_moebiuses_69 rfl rfl rfl ?_
      refine zw_iload_n 2 dX8_moebiuses_70 rfl rfl rfl ?_
      obtain ⟨q1, ct, K⟩ := K
      refine zw_callV (n := 3) (As := [.int v4, .int v1, .int v2]) (rest := []) ct my_X8_isBetween rfl rfl k_X8_185 i_X8_isBetween s_X8_isBetween zs_56 rfl dX8_moebiuses_71 (by decide) (Nat.le_of_ble_eq_true rfl) (Nat.le_refl 0) (Nat.le_refl 0) rfl (fun r s1 h1 hq => ?_)
      obtain ⟨x1, rfl, rfl, hq⟩ := hq
      have K := K x1 h1 hq
      refine zw.st (st' := [.int x1]) rfl ?_
      refine zw_if_eq (tg := 126) dX8_moebiuses_74 (by decide) rfl (fun c => ?_) (fun c => ?_)
      · have K := K.1 c
        refine zw_iinc (v := (v4 + (1 : Int32))) 4 dX8_moebiuses_126 rfl rfl (by decide) rfl rfl ?_
        refine zw_goto (np := 11) dX8_moebiuses_129 (by decide) ?_
        exact zw.sub [1, 2, 3, 4, 0] rfl K
      · have K := K.2 c
        refine zw_aload_n 0 dX8_moebiuses_77 rfl rfl rfl ?_
        refine zw_getR f_X8_28 dX8_moebiuses_78 zs_56 rfl rfl ?_
        refine zw_iload 4 dX8_moebiuses_81 rfl rfl ?_
        refine zw_dup2 dX8_moebiuses_83 rfl rfl rfl ?_
        obtain ⟨j2, hj2, hn2, K⟩ := K
        refine zw_lald j2 dX8_moebiuses_84 zs_63 ⟨hj2, hn2⟩ (by decide) rfl ?_
        refine zw_aload_n 0 dX8_moebiuses_85 rfl rfl rfl ?_
        refine zw_iload 5 dX8_moebiuses_86 rfl rfl ?_
        refine zw_iload_n 1 dX8_moebiuses_88 rfl rfl rfl ?_
        refine zw_iload_n 2 dX8_moebiuses_89 rfl rfl rfl ?_
        obtain ⟨q3, ct, K⟩ := K
        refine zw_callV (n := 3) (As := [.int v5, .int v1, .int v2]) (rest := [.long (h1.2 63 j2), .int v4, .ref 63]) ct my_X8_isBetween rfl rfl k_X8_185 i_X8_isBetween s_X8_isBetween zs_56 rfl dX8_moebiuses_90 (by decide) (Nat.le_of_ble_eq_true rfl) (Nat.le_refl 0) (Nat.le_refl 0) rfl (fun r s1 h3 hq => ?_)
        obtain ⟨x3, rfl, rfl, hq⟩ := hq
        have K := K x3 h3 hq
        refine zw.st (st' := [.int x3, .long (h1.2 63 j2), .int v4, .ref 63]) rfl ?_
        refine zw_if_eq (tg := 117) dX8_moebiuses_93 (by decide) rfl (fun c => ?_) (fun c => ?_)
        · have K := K.1 c
          refine zw_lconst (v := (0 : Int64)) dX8_moebiuses_117 (by decide) rfl ?_
          refine zw_lsub dX8_moebiuses_118 rfl ?_
          obtain ⟨j4, hj4, hn4, K⟩ := K
          refine zw_last j4 dX8_moebiuses_119 zs_63 ⟨hj4, hn4⟩ (by decide) rfl ?_
          generalize e5 : zw_sL h3 63 j4 ((h1.2 63 j2) - (0 : Int64)) = h5
          have K := K h5 e5.symm
          refine zw_iinc (v := (v5 + (1 : Int32))) 5 dX8_moebiuses_120 rfl rfl (by decide) rfl rfl ?_
          refine zw_goto (np := 51) dX8_moebiuses_123 (by decide) ?_
          exact zw.sub [1, 2, 3, 4, 5, 0] rfl K
        · have K := K.2 c
          refine zw_aload_n 0 dX8_moebiuses_96 rfl rfl rfl ?_
          refine zw_iload 5 dX8_moebiuses_97 rfl rfl ?_
          refine zw_iload 4 dX8_moebiuses_99 rfl rfl ?_
          obtain ⟨q6, ct, K⟩ := K
          refine zw_callV (n := 2) (As := [.int v5, .int v4]) (rest := [.long (h1.2 63 j2), .int v4, .ref 63]) ct my_X8_isStrictly rfl rfl k_X8_169 i_X8_isStrictly s_X8_isStrictly zs_56 rfl dX8_moebiuses_101 (by decide) (Nat.le_of_ble_eq_true rfl) (Nat.le_refl 0) (Nat.le_refl 0) rfl (fun r s1 h6 hq => ?_)
          obtain ⟨x6, rfl, rfl, hq⟩ := hq
          have K := K x6 h6 hq
          refine zw.st (st' := [.int x6, .long (h1.2 63 j2), .int v4, .ref 63]) rfl ?_
          refine zw_if_eq (tg := 117) dX8_moebiuses_104 (by decide) rfl (fun c => ?_) (fun c => ?_)
          · have K := K.1 c
            refine zw_lconst (v := (0 : Int64)) dX8_moebiuses_117 (by decide) rfl ?_
            refine zw_lsub dX8_moebiuses_118 rfl ?_
            obtain ⟨j7, hj7, hn7, K⟩ := K
            refine zw_last j7 dX8_moebiuses_119 zs_63 ⟨hj7, hn7⟩ (by decide) rfl ?_
            generalize e8 : zw_sL h6 63 j7 ((h1.2 63 j2) - (0 : Int64)) = h8
            have K := K h8 e8.symm
            refine zw_iinc (v := (v5 + (1 : Int32))) 5 dX8_moebiuses_120 rfl rfl (by decide) rfl rfl ?_
            refine zw_goto (np := 51) dX8_moebiuses_123 (by decide) ?_
            exact zw.sub [1, 2, 3, 4, 5, 0] rfl K
          · have K := K.2 c
            refine zw_aload_n 0 dX8_moebiuses_107 rfl rfl rfl ?_
            refine zw_getR f_X8_28 dX8_moebiuses_108 zs_56 rfl rfl ?_
            refine zw_iload 5 dX8_moebiuses_111 rfl rfl ?_
            obtain ⟨j9, hj9, hn9, K⟩ := K
            refine zw_lald j9 dX8_moebiuses_113 zs_63 ⟨hj9, hn9⟩ (by decide) rfl ?_
            refine zw_goto (np := 118) dX8_moebiuses_114 (by decide) ?_
            refine zw_lsub dX8_moebiuses_118 rfl ?_
            obtain ⟨j10, hj10, hn10, K⟩ := K
            refine zw_last j10 dX8_moebiuses_119 zs_63 ⟨hj10, hn10⟩ (by decide) rfl ?_
            generalize e11 : zw_sL h6 63 j10 ((h1.2 63 j2) - (h6.2 63 j9)) = h11
            have K := K h11 e11.symm
            refine zw_iinc (v := (v5 + (1 : Int32))) 5 dX8_moebiuses_120 rfl rfl (by decide) rfl rfl ?_
            refine zw_goto (np := 51) dX8_moebiuses_123 (by decide) ?_
            exact zw.sub [1, 2, 3, 4, 5, 0] rfl K

set_option maxRecDepth 100000 in
set_option maxHeartbeats 4000000 in
theorem rX8_wrongAdmitted_0 {q : Int32 → zw_H → Prop} {h : zw_H} {v1 v2 : Int32} (K : (∃ q1 : Int32 → zw_H → Prop, zcI 2 mX8_wrongOf [.ref 56, .int v1, .int v2] h q1 ∧ (∀ (x1 : Int32) (h1 : zw_H), q1 x1 h1 → ((x1 = 0 → (∃ q2 : Int32 → zw_H → Prop, zcI 0 mX8_held [.ref 56, .int v1] h1 q2 ∧ (∀ (x2 : Int32) (h2 : zw_H), q2 x2 h2 → (∃ q3 : Int32 → zw_H → Prop, zcI 0 mX8_isAdmitted [.ref 56, .int x2] h2 q3 ∧ (∀ (x3 : Int32) (h3 : zw_H), q3 x3 h3 → ((x3 = 0 → q (-3 : Int32) h3) ∧ (¬ x3 = 0 → (∃ q4 : Int32 → zw_H → Prop, zcI 0 mX8_held [.ref 56, .int v2] h3 q4 ∧ (∀ (x4 : Int32) (h4 : zw_H), q4 x4 h4 → (∃ q5 : Int32 → zw_H → Prop, zcI 0 mX8_isAdmitted [.ref 56, .int x4] h4 q5 ∧ (∀ (x5 : Int32) (h5 : zw_H), q5 x5 h5 → ((x5 = 0 → q (-3 : Int32) h5) ∧ (¬ x5 = 0 → q (0 : Int32) h5))))))))))))) ∧ (¬ x1 = 0 → q x1 h1))))) : zwI 3 mX8_wrongAdmitted q 0 [(0, .ref 56), (1, .int v1), (2, .int v2)] [] h := by
  refine zw_aload_n 0 dX8_wrongAdmitted_0 rfl rfl rfl ?_
  refine zw_iload_n 1 dX8_wrongAdmitted_1 rfl rfl rfl ?_
  refine zw_iload_n 2 dX8_wrongAdmitted_2 rfl rfl rfl ?_
  obtain ⟨q1, ct, K⟩ := K
  refine zw_callV (n := 2) (As := [.int v1, .int v2]) (rest := []) ct my_X8_wrongOf rfl rfl k_X8_134 i_X8_wrongOf s_X8_wrongOf zs_56 rfl dX8_wrongAdmitted_3 (by decide) (Nat.le_of_ble_eq_true rfl) (Nat.le_refl 0) (Nat.le_refl 0) rfl (fun r s1 h1 hq => ?_)
  obtain ⟨x1, rfl, rfl, hq⟩ := hq
  have K := K x1 h1 hq
  refine zw.st (st' := [.int x1]) rfl ?_
  refine zw_istore_n dX8_wrongAdmitted_6 rfl (by decide) rfl rfl ?_
  refine zw_iload_n 0 dX8_wrongAdmitted_7 rfl rfl rfl ?_
  refine zw_if_eq (tg := 15) dX8_wrongAdmitted_8 (by decide) rfl (fun c => ?_) (fun c => ?_)
  · have K := K.1 c
    refine zw_aload_n 1 dX8_wrongAdmitted_15 rfl rfl rfl ?_
    refine zw_aload_n 1 dX8_wrongAdmitted_16 rfl rfl rfl ?_
    refine zw_iload_n 2 dX8_wrongAdmitted_17 rfl rfl rfl ?_
    obtain ⟨q2, ct, K⟩ := K
    refine zw_callV (n := 1) (As := [.int v1]) (rest := [.ref 56]) ct my_X8_held rfl rfl k_X8_128 i_X8_held s_X8_held zs_56 rfl dX8_wrongAdmitted_18 (by decide) (Nat.le_of_ble_eq_true rfl) (Nat.le_refl 0) (Nat.le_refl 0) rfl (fun r s1 h2 hq => ?_)
    obtain ⟨x2, rfl, rfl, hq⟩ := hq
    have K := K x2 h2 hq
    refine zw.st (st' := [.int x2, .ref 56]) rfl ?_
    obtain ⟨q3, ct, K⟩ := K
    refine zw_callV (n := 1) (As := [.int x2]) (rest := []) ct my_X8_isAdmitted rfl rfl k_X8_150 i_X8_isAdmitted s_X8_isAdmitted zs_56 rfl dX8_wrongAdmitted_21 (by decide) (Nat.le_of_ble_eq_true rfl) (Nat.le_refl 0) (Nat.le_refl 0) rfl (fun r s1 h3 hq => ?_)
    obtain ⟨x3, rfl, rfl, hq⟩ := hq
    have K := K x3 h3 hq
    refine zw.st (st' := [.int x3]) rfl ?_
    refine zw_if_eq (tg := 43) dX8_wrongAdmitted_24 (by decide) rfl (fun c => ?_) (fun c => ?_)
    · have K := K.1 c
      refine zw_bipush (v := (-3 : Int32)) dX8_wrongAdmitted_43 (by decide) rfl ?_
      exact zw_ireturn (ty := .int) dX8_wrongAdmitted_45 rfl rfl (Nat.le_refl 0) (Nat.le_refl 0) ⟨_, rfl, rfl, K⟩
    · have K := K.2 c
      refine zw_aload_n 1 dX8_wrongAdmitted_27 rfl rfl rfl ?_
      refine zw_aload_n 1 dX8_wrongAdmitted_28 rfl rfl rfl ?_
      refine zw_iload_n 3 dX8_wrongAdmitted_29 rfl rfl rfl ?_
      obtain ⟨q4, ct, K⟩ := K
      refine zw_callV (n := 1) (As := [.int v2]) (rest := [.ref 56]) ct my_X8_held rfl rfl k_X8_128 i_X8_held s_X8_held zs_56 rfl dX8_wrongAdmitted_30 (by decide) (Nat.le_of_ble_eq_true rfl) (Nat.le_refl 0) (Nat.le_refl 0) rfl (fun r s1 h4 hq => ?_)
      obtain ⟨x4, rfl, rfl, hq⟩ := hq
      have K := K x4 h4 hq
      refine zw.st (st' := [.int x4, .ref 56]) rfl ?_
      obtain ⟨q5, ct, K⟩ := K
      refine zw_callV (n := 1) (As := [.int x4]) (rest := []) ct my_X8_isAdmitted rfl rfl k_X8_150 i_X8_isAdmitted s_X8_isAdmitted zs_56 rfl dX8_wrongAdmitted_33 (by decide) (Nat.le_of_ble_eq_true rfl) (Nat.le_refl 0) (Nat.le_refl 0) rfl (fun r s1 h5 hq => ?_)
      obtain ⟨x5, rfl, rfl, hq⟩ := hq
      have K := K x5 h5 hq
      refine zw.st (st' := [.int x5]) rfl ?_
      refine zw_if_eq (tg := 43) dX8_wrongAdmitted_36 (by decide) rfl (fun c => ?_) (fun c => ?_)
      · have K := K.1 c
        refine zw_bipush (v := (-3 : Int32)) dX8_wrongAdmitted_43 (by decide) rfl ?_
        exact zw_ireturn (ty := .int) dX8_wrongAdmitted_45 rfl rfl (Nat.le_refl 0) (Nat.le_refl 0) ⟨_, rfl, rfl, K⟩
      · have K := K.2 c
        refine zw_iconst (v := (0 : Int32)) dX8_wrongAdmitted_39 (by decide) rfl ?_
        refine zw_goto (np := 45) dX8_wrongAdmitted_40 (by decide) ?_
        exact zw_ireturn (ty := .int) dX8_wrongAdmitted_45 rfl rfl (Nat.le_refl 0) (Nat.le_refl 0) ⟨_, rfl, rfl, K⟩
  · have K := K.2 c
    refine zw_iload_n 0 dX8_wrongAdmitted_11 rfl rfl rfl ?_
    refine zw_goto (np := 45) dX8_wrongAdmitted_12 (by decide) ?_
    exact zw_ireturn (ty := .int) dX8_wrongAdmitted_45 rfl rfl (Nat.le_refl 0) (Nat.le_refl 0) ⟨_, rfl, rfl, K⟩

set_option maxRecDepth 100000 in
set_option maxHeartbeats 4000000 in
theorem rX8_moebius_0 {q : Int64 → zw_H → Prop} {h : zw_H} {v1 v2 : Int32} (K : (∃ q1 : Int32 → zw_H → Prop, zcI 3 mX8_wrongAdmitted [.ref 56, .int v1, .int v2] h q1 ∧ (∀ (x1 : Int32) (h1 : zw_H), q1 x1 h1 → ((x1 = 0 → (∃ q2 : Int32 → zw_H → Prop, zcI 0 mX8_held [.ref 56, .int v1] h1 q2 ∧ (∀ (x2 : Int32) (h2 : zw_H), q2 x2 h2 → (∃ q3 : Int32 → zw_H → Prop, zcI 0 mX8_held [.ref 56, .int v2] h2 q3 ∧ (∀ (x3 : Int32) (h3 : zw_H), q3 x3 h3 → (∃ q4 : Int32 → zw_H → Prop, zcI 1 mX8_isBelow [.ref 56, .int x2, .int x3] h3 q4 ∧ (∀ (x4 : Int32) (h4 : zw_H), q4 x4 h4 → ((¬ x4 = 0 → (∃ q5 : Int32 → zw_H → Prop, zcI 0 mX8_held [.ref 56, .int v1] h4 q5 ∧ (∀ (x5 : Int32) (h5 : zw_H), q5 x5 h5 → (∃ q6 : Int32 → zw_H → Prop, zcI 0 mX8_held [.ref 56, .int v2] h5 q6 ∧ (∀ (x6 : Int32) (h6 : zw_H), q6 x6 h6 → (∃ q7 : zw_H → Prop, zcV 3 mX8_moebiuses [.ref 56, .int x5, .int x6] h6 q7 ∧ (∀ h7 : zw_H, q7 h7 → (∃ q8 : Int32 → zw_H → Prop, zcI 0 mX8_held [.ref 56, .int v2] h7 q8 ∧ (∀ (x8 : Int32) (h8 : zw_H), q8 x8 h8 → (∃ j9 : Nat, x8 = nI j9 ∧ j9 < 203 ∧ q (h8.2 63 j9) h8)))))))))) ∧ (x4 = 0 → q (0 : Int64) h4))))))))) ∧ (¬ x1 = 0 → q ((-1000000000 : Int64) + (Int32.toInt64 x1)) h1))))) : zwL 4 mX8_moebius q 0 [(0, .ref 56), (1, .int v1), (2, .int v2)] [] h := by
  refine zw_aload_n 0 dX8_moebius_0 rfl rfl rfl ?_
  refine zw_iload_n 1 dX8_moebius_1 rfl rfl rfl ?_
  refine zw_iload_n 2 dX8_moebius_2 rfl rfl rfl ?_
  obtain ⟨q1, ct, K⟩ := K
  refine zw_callV (n := 2) (As := [.int v1, .int v2]) (rest := []) ct my_X8_wrongAdmitted rfl rfl k_X8_191 i_X8_wrongAdmitted s_X8_wrongAdmitted zs_56 rfl dX8_moebius_3 (by decide) (Nat.le_of_ble_eq_true rfl) (Nat.le_refl 0) (Nat.le_refl 0) rfl (fun r s1 h1 hq => ?_)
  obtain ⟨x1, rfl, rfl, hq⟩ := hq
  have K := K x1 h1 hq
  refine zw.st (st' := [.int x1]) rfl ?_
  refine zw_istore_n dX8_moebius_6 rfl (by decide) rfl rfl ?_
  refine zw_iload_n 0 dX8_moebius_7 rfl rfl rfl ?_
  refine zw_if_eq (tg := 18) dX8_moebius_8 (by decide) rfl (fun c => ?_) (fun c => ?_)
  · have K := K.1 c
    refine zw_aload_n 1 dX8_moebius_18 rfl rfl rfl ?_
    refine zw_aload_n 1 dX8_moebius_19 rfl rfl rfl ?_
    refine zw_iload_n 2 dX8_moebius_20 rfl rfl rfl ?_
    obtain ⟨q2, ct, K⟩ := K
    refine zw_callV (n := 1) (As := [.int v1]) (rest := [.ref 56]) ct my_X8_held rfl rfl k_X8_128 i_X8_held s_X8_held zs_56 rfl dX8_moebius_21 (by decide) (Nat.le_of_ble_eq_true rfl) (Nat.le_refl 0) (Nat.le_refl 0) rfl (fun r s1 h2 hq => ?_)
    obtain ⟨x2, rfl, rfl, hq⟩ := hq
    have K := K x2 h2 hq
    refine zw.st (st' := [.int x2, .ref 56]) rfl ?_
    refine zw_aload_n 1 dX8_moebius_24 rfl rfl rfl ?_
    refine zw_iload_n 3 dX8_moebius_25 rfl rfl rfl ?_
    obtain ⟨q3, ct, K⟩ := K
    refine zw_callV (n := 1) (As := [.int v2]) (rest := [.int x2, .ref 56]) ct my_X8_held rfl rfl k_X8_128 i_X8_held s_X8_held zs_56 rfl dX8_moebius_26 (by decide) (Nat.le_of_ble_eq_true rfl) (Nat.le_refl 0) (Nat.le_refl 0) rfl (fun r s1 h3 hq => ?_)
    obtain ⟨x3, rfl, rfl, hq⟩ := hq
    have K := K x3 h3 hq
    refine zw.st (st' := [.int x3, .int x2, .ref 56]) rfl ?_
    obtain ⟨q4, ct, K⟩ := K
    refine zw_callV (n := 2) (As := [.int x2, .int x3]) (rest := []) ct my_X8_isBelow rfl rfl k_X8_89 i_X8_isBelow s_X8_isBelow zs_56 rfl dX8_moebius_29 (by decide) (Nat.le_of_ble_eq_true rfl) (Nat.le_refl 0) (Nat.le_refl 0) rfl (fun r s1 h4 hq => ?_)
    obtain ⟨x4, rfl, rfl, hq⟩ := hq
    have K := K x4 h4 hq
    refine zw.st (st' := [.int x4]) rfl ?_
    refine zw_if_ne (tg := 37) dX8_moebius_32 (by decide) rfl (fun c => ?_) (fun c => ?_)
    · have K := K.1 c
      refine zw_aload_n 1 dX8_moebius_37 rfl rfl rfl ?_
      refine zw_aload_n 1 dX8_moebius_38 rfl rfl rfl ?_
      refine zw_iload_n 2 dX8_moebius_39 rfl rfl rfl ?_
      obtain ⟨q5, ct, K⟩ := K
      refine zw_callV (n := 1) (As := [.int v1]) (rest := [.ref 56]) ct my_X8_held rfl rfl k_X8_128 i_X8_held s_X8_held zs_56 rfl dX8_moebius_40 (by decide) (Nat.le_of_ble_eq_true rfl) (Nat.le_refl 0) (Nat.le_refl 0) rfl (fun r s1 h5 hq => ?_)
      obtain ⟨x5, rfl, rfl, hq⟩ := hq
      have K := K x5 h5 hq
      refine zw.st (st' := [.int x5, .ref 56]) rfl ?_
      refine zw_aload_n 1 dX8_moebius_43 rfl rfl rfl ?_
      refine zw_iload_n 3 dX8_moebius_44 rfl rfl rfl ?_
      obtain ⟨q6, ct, K⟩ := K
      refine zw_callV (n := 1) (As := [.int v2]) (rest := [.int x5, .ref 56]) ct my_X8_held rfl rfl k_X8_128 i_X8_held s_X8_held zs_56 rfl dX8_moebius_45 (by decide) (Nat.le_of_ble_eq_true rfl) (Nat.le_refl 0) (Nat.le_refl 0) rfl (fun r s1 h6 hq => ?_)
      obtain ⟨x6, rfl, rfl, hq⟩ := hq
      have K := K x6 h6 hq
      refine zw.st (st' := [.int x6, .int x5, .ref 56]) rfl ?_
      obtain ⟨q7, ct, K⟩ := K
      refine zw_callV (n := 2) (As := [.int x5, .int x6]) (rest := []) ct my_X8_moebiuses rfl rfl k_X8_196 i_X8_moebiuses s_X8_moebiuses zs_56 rfl dX8_moebius_48 (by decide) (Nat.le_of_ble_eq_true rfl) (Nat.le_refl 0) (Nat.le_refl 0) rfl (fun r s1 h7 hq => ?_)
      obtain ⟨rfl, rfl, hq⟩ := hq
      have K := K h7 hq
      refine zw.st (st' := []) rfl ?_
      refine zw_aload_n 1 dX8_moebius_51 rfl rfl rfl ?_
      refine zw_getR f_X8_28 dX8_moebius_52 zs_56 rfl rfl ?_
      refine zw_aload_n 1 dX8_moebius_55 rfl rfl rfl ?_
      refine zw_iload_n 3 dX8_moebius_56 rfl rfl rfl ?_
      obtain ⟨q8, ct, K⟩ := K
      refine zw_callV (n := 1) (As := [.int v2]) (rest := [.ref 63]) ct my_X8_held rfl rfl k_X8_128 i_X8_held s_X8_held zs_56 rfl dX8_moebius_57 (by decide) (Nat.le_of_ble_eq_true rfl) (Nat.le_refl 0) (Nat.le_refl 0) rfl (fun r s1 h8 hq => ?_)
      obtain ⟨x8, rfl, rfl, hq⟩ := hq
      have K := K x8 h8 hq
      refine zw.st (st' := [.int x8, .ref 63]) rfl ?_
      obtain ⟨j9, hj9, hn9, K⟩ := K
      refine zw_lald j9 dX8_moebius_60 zs_63 ⟨hj9, hn9⟩ (by decide) rfl ?_
      exact zw_lreturn dX8_moebius_61 rfl (Nat.le_refl 0) (Nat.le_refl 0) ⟨_, rfl, rfl, K⟩
    · have K := K.2 c
      refine zw_lconst (v := (0 : Int64)) dX8_moebius_35 (by decide) rfl ?_
      exact zw_lreturn dX8_moebius_36 rfl (Nat.le_refl 0) (Nat.le_refl 0) ⟨_, rfl, rfl, K⟩
  · have K := K.2 c
    refine zw_ldc2 n_X8_194 dX8_moebius_11 rfl ?_
    refine zw_iload_n 0 dX8_moebius_14 rfl rfl rfl ?_
    refine zw_i2l dX8_moebius_15 rfl ?_
    refine zw_ladd dX8_moebius_16 rfl ?_
    exact zw_lreturn dX8_moebius_17 rfl (Nat.le_refl 0) (Nat.le_refl 0) ⟨_, rfl, rfl, K⟩

set_option maxRecDepth 100000 in
set_option maxHeartbeats 4000000 in
theorem rX8_extendsAll_0 {q : zw_H → Prop} {h : zw_H} (K : zwV 3 mX8_extendsAll q 2 [(0, .ref 56), (1, .int (0 : Int32))] [] h) : zwV 3 mX8_extendsAll q 0 [(0, .ref 56)] [] h := by
  refine zw_iconst (v := (0 : Int32)) dX8_extendsAll_0 (by decide) rfl ?_
  refine zw_istore_n dX8_extendsAll_1 rfl (by decide) rfl rfl ?_
  exact zw.sub [1, 0] rfl K

set_option maxRecDepth 100000 in
set_option maxHeartbeats 4000000 in
theorem rX8_extendsAll_2 {q : zw_H → Prop} {h : zw_H} {v1 : Int32} (K : (((h.1 56 7) ≤ v1 → zwV 3 mX8_extendsAll q 85 [(0, .ref 56), (1, .int (0 : Int32))] [] h) ∧ (¬ (h.1 56 7) ≤ v1 → (∃ j1 : Nat, v1 = nI j1 ∧ j1 < 203 ∧ ∀ h2 : zw_H, h2 = zw_sL h 64 j1 (0 : Int64) → zwV 3 mX8_extendsAll q 19 [(0, .ref 56), (1, .int v1), (2, .int (0 : Int32))] [] h2)))) : zwV 3 mX8_extendsAll q 2 [(0, .ref 56), (1, .int v1)] [] h := by
  refine zw_iload_n 1 dX8_extendsAll_2 rfl rfl rfl ?_
  refine zw_aload_n 0 dX8_extendsAll_3 rfl rfl rfl ?_
  refine zw_getI f_X8_52 dX8_extendsAll_4 zs_56 rfl rfl ?_
  refine zw_icmp_ge (tg := 83) dX8_extendsAll_7 (by decide) rfl (fun c => ?_) (fun c => ?_)
  · have K := K.1 c
    refine zw_iconst (v := (0 : Int32)) dX8_extendsAll_83 (by decide) rfl ?_
    refine zw_istore_n dX8_extendsAll_84 rfl (by decide) rfl rfl ?_
    exact zw.sub [1, 0] rfl K
  · have K := K.2 c
    refine zw_aload_n 0 dX8_extendsAll_10 rfl rfl rfl ?_
    refine zw_getR f_X8_32 dX8_extendsAll_11 zs_56 rfl rfl ?_
    refine zw_iload_n 1 dX8_extendsAll_14 rfl rfl rfl ?_
    refine zw_lconst (v := (0 : Int64)) dX8_extendsAll_15 (by decide) rfl ?_
    obtain ⟨j1, hj1, hn1, K⟩ := K
    refine zw_last j1 dX8_extendsAll_16 zs_64 ⟨hj1, hn1⟩ (by decide) rfl ?_
    generalize e2 : zw_sL h 64 j1 (0 : Int64) = h2
    have K := K h2 e2.symm
    refine zw_iconst (v := (0 : Int32)) dX8_extendsAll_17 (by decide) rfl ?_
    refine zw_istore_n dX8_extendsAll_18 rfl (by decide) rfl rfl ?_
    exact zw.sub [1, 2, 0] rfl K

set_option maxRecDepth 100000 in
set_option maxHeartbeats 4000000 in
theorem rX8_extendsAll_19 {q : zw_H → Prop} {h : zw_H} {v1 v2 : Int32} (K : (((h.1 56 7) ≤ v2 → zwV 3 mX8_extendsAll q 2 [(0, .ref 56), (1, .int (v1 + (1 : Int32)))] [] h) ∧ (¬ (h.1 56 7) ≤ v2 → (∃ q1 : Int32 → zw_H → Prop, zcI 0 mX8_isAdmitted [.ref 56, .int v1] h q1 ∧ (∀ (x1 : Int32) (h1 : zw_H), q1 x1 h1 → ((x1 = 0 → zwV 3 mX8_extendsAll q 2 [(0, .ref 56), (1, .int (v1 + (1 : Int32)))] [] h1) ∧ (¬ x1 = 0 → (∃ j2 : Nat, v1 = nI j2 ∧ j2 < 203 ∧ (∃ q3 : Int32 → zw_H → Prop, zcI 0 mX8_isAdmitted [.ref 56, .int v2] h1 q3 ∧ (∀ (x3 : Int32) (h3 : zw_H), q3 x3 h3 → ((x3 = 0 → (∃ j4 : Nat, v1 = nI j4 ∧ j4 < 203 ∧ ∀ h5 : zw_H, h5 = zw_sL h3 64 j4 ((h1.2 64 j2) + (0 : Int64)) → zwV 3 mX8_extendsAll q 19 [(0, .ref 56), (1, .int v1), (2, .int (v2 + (1 : Int32)))] [] h5)) ∧ (¬ x3 = 0 → (∃ q6 : Int32 → zw_H → Prop, zcI 2 mX8_isStrictly [.ref 56, .int v2, .int v1] h3 q6 ∧ (∀ (x6 : Int32) (h6 : zw_H), q6 x6 h6 → ((x6 = 0 → (∃ j7 : Nat, v1 = nI j7 ∧ j7 < 203 ∧ ∀ h8 : zw_H, h8 = zw_sL h6 64 j7 ((h1.2 64 j2) + (0 : Int64)) → zwV 3 mX8_extendsAll q 19 [(0, .ref 56), (1, .int v1), (2, .int (v2 + (1 : Int32)))] [] h8)) ∧ (¬ x6 = 0 → (∃ j9 : Nat, v2 = nI j9 ∧ j9 < 203 ∧ (∃ j10 : Nat, v1 = nI j10 ∧ j10 < 203 ∧ ∀ h11 : zw_H, h11 = zw_sL h6 64 j10 ((h1.2 64 j2) + (h6.2 63 j9)) → zwV 3 mX8_extendsAll q 19 [(0, .ref 56), (1, .int v1), (2, .int (v2 + (1 : Int32)))] [] h11)))))))))))))))))) : zwV 3 mX8_extendsAll q 19 [(0, .ref 56), (1, .int v1), (2, .int v2)] [] h := by
  refine zw_iload_n 2 dX8_extendsAll_19 rfl rfl rfl ?_
  refine zw_aload_n 0 dX8_extendsAll_20 rfl rfl rfl ?_
  refine zw_getI f_X8_52 dX8_extendsAll_21 zs_56 rfl rfl ?_
  refine zw_icmp_ge (tg := 77) dX8_extendsAll_24 (by decide) rfl (fun c => ?_) (fun c => ?_)
  · have K := K.1 c
    refine zw_iinc (v := (v1 + (1 : Int32))) 1 dX8_extendsAll_77 rfl rfl (by decide) rfl rfl ?_
    refine zw_goto (np := 2) dX8_extendsAll_80 (by decide) ?_
    exact zw.sub [1, 0] rfl K
  · have K := K.2 c
    refine zw_aload_n 0 dX8_extendsAll_27 rfl rfl rfl ?_
    refine zw_iload_n 1 dX8_extendsAll_28 rfl rfl rfl ?_
    obtain ⟨q1, ct, K⟩ := K
    refine zw_callV (n := 1) (As := [.int v1]) (rest := []) ct my_X8_isAdmitted rfl rfl k_X8_150 i_X8_isAdmitted s_X8_isAdmitted zs_56 rfl dX8_extendsAll_29 (by decide) (Nat.le_of_ble_eq_true rfl) (Nat.le_refl 0) (Nat.le_refl 0) rfl (fun r s1 h1 hq => ?_)
    obtain ⟨x1, rfl, rfl, hq⟩ := hq
    have K := K x1 h1 hq
    refine zw.st (st' := [.int x1]) rfl ?_
    refine zw_if_eq (tg := 77) dX8_extendsAll_32 (by decide) rfl (fun c => ?_) (fun c => ?_)
    · have K := K.1 c
      refine zw_iinc (v := (v1 + (1 : Int32))) 1 dX8_extendsAll_77 rfl rfl (by decide) rfl rfl ?_
      refine zw_goto (np := 2) dX8_extendsAll_80 (by decide) ?_
      exact zw.sub [1, 0] rfl K
    · have K := K.2 c
      refine zw_aload_n 0 dX8_extendsAll_35 rfl rfl rfl ?_
      refine zw_getR f_X8_32 dX8_extendsAll_36 zs_56 rfl rfl ?_
      refine zw_iload_n 1 dX8_extendsAll_39 rfl rfl rfl ?_
      refine zw_dup2 dX8_extendsAll_40 rfl rfl rfl ?_
      obtain ⟨j2, hj2, hn2, K⟩ := K
      refine zw_lald j2 dX8_extendsAll_41 zs_64 ⟨hj2, hn2⟩ (by decide) rfl ?_
      refine zw_aload_n 0 dX8_extendsAll_42 rfl rfl rfl ?_
      refine zw_iload_n 2 dX8_extendsAll_43 rfl rfl rfl ?_
      obtain ⟨q3, ct, K⟩ := K
      refine zw_callV (n := 1) (As := [.int v2]) (rest := [.long (h1.2 64 j2), .int v1, .ref 64]) ct my_X8_isAdmitted rfl rfl k_X8_150 i_X8_isAdmitted s_X8_isAdmitted zs_56 rfl dX8_extendsAll_44 (by decide) (Nat.le_of_ble_eq_true rfl) (Nat.le_refl 0) (Nat.le_refl 0) rfl (fun r s1 h3 hq => ?_)
      obtain ⟨x3, rfl, rfl, hq⟩ := hq
      have K := K x3 h3 hq
      refine zw.st (st' := [.int x3, .long (h1.2 64 j2), .int v1, .ref 64]) rfl ?_
      refine zw_if_eq (tg := 68) dX8_extendsAll_47 (by decide) rfl (fun c => ?_) (fun c => ?_)
      · have K := K.1 c
        refine zw_lconst (v := (0 : Int64)) dX8_extendsAll_68 (by decide) rfl ?_
        refine zw_ladd dX8_extendsAll_69 rfl ?_
        obtain ⟨j4, hj4, hn4, K⟩ := K
        refine zw_last j4 dX8_extendsAll_70 zs_64 ⟨hj4, hn4⟩ (by decide) rfl ?_
        generalize e5 : zw_sL h3 64 j4 ((h1.2 64 j2) + (0 : Int64)) = h5
        have K := K h5 e5.symm
        refine zw_iinc (v := (v2 + (1 : Int32))) 2 dX8_extendsAll_71 rfl rfl (by decide) rfl rfl ?_
        refine zw_goto (np := 19) dX8_extendsAll_74 (by decide) ?_
        exact zw.sub [1, 2, 0] rfl K
      · have K := K.2 c
        refine zw_aload_n 0 dX8_extendsAll_50 rfl rfl rfl ?_
        refine zw_iload_n 2 dX8_extendsAll_51 rfl rfl rfl ?_
        refine zw_iload_n 1 dX8_extendsAll_52 rfl rfl rfl ?_
        obtain ⟨q6, ct, K⟩ := K
        refine zw_callV (n := 2) (As := [.int v2, .int v1]) (rest := [.long (h1.2 64 j2), .int v1, .ref 64]) ct my_X8_isStrictly rfl rfl k_X8_169 i_X8_isStrictly s_X8_isStrictly zs_56 rfl dX8_extendsAll_53 (by decide) (Nat.le_of_ble_eq_true rfl) (Nat.le_refl 0) (Nat.le_refl 0) rfl (fun r s1 h6 hq => ?_)
        obtain ⟨x6, rfl, rfl, hq⟩ := hq
        have K := K x6 h6 hq
        refine zw.st (st' := [.int x6, .long (h1.2 64 j2), .int v1, .ref 64]) rfl ?_
        refine zw_if_eq (tg := 68) dX8_extendsAll_56 (by decide) rfl (fun c => ?_) (fun c => ?_)
        · have K := K.1 c
          refine zw_lconst (v := (0 : Int64)) dX8_extendsAll_68 (by decide) rfl ?_
          refine zw_ladd dX8_extendsAll_69 rfl ?_
          obtain ⟨j7, hj7, hn7, K⟩ := K
          refine zw_last j7 dX8_extendsAll_70 zs_64 ⟨hj7, hn7⟩ (by decide) rfl ?_
          generalize e8 : zw_sL h6 64 j7 ((h1.2 64 j2) + (0 : Int64)) = h8
          have K := K h8 e8.symm
          refine zw_iinc (v := (v2 + (1 : Int32))) 2 dX8_extendsAll_71 rfl rfl (by decide) rfl rfl ?_
          refine zw_goto (np := 19) dX8_extendsAll_74 (by decide) ?_
          exact zw.sub [1, 2, 0] rfl K
        · have K := K.2 c
          refine zw_aload_n 0 dX8_extendsAll_59 rfl rfl rfl ?_
          refine zw_getR f_X8_28 dX8_extendsAll_60 zs_56 rfl rfl ?_
          refine zw_iload_n 2 dX8_extendsAll_63 rfl rfl rfl ?_
          obtain ⟨j9, hj9, hn9, K⟩ := K
          refine zw_lald j9 dX8_extendsAll_64 zs_63 ⟨hj9, hn9⟩ (by decide) rfl ?_
          refine zw_goto (np := 69) dX8_extendsAll_65 (by decide) ?_
          refine zw_ladd dX8_extendsAll_69 rfl ?_
          obtain ⟨j10, hj10, hn10, K⟩ := K
          refine zw_last j10 dX8_extendsAll_70 zs_64 ⟨hj10, hn10⟩ (by decide) rfl ?_
          generalize e11 : zw_sL h6 64 j10 ((h1.2 64 j2) + (h6.2 63 j9)) = h11
          have K := K h11 e11.symm
          refine zw_iinc (v := (v2 + (1 : Int32))) 2 dX8_extendsAll_71 rfl rfl (by decide) rfl rfl ?_
          refine zw_goto (np := 19) dX8_extendsAll_74 (by decide) ?_
          exact zw.sub [1, 2, 0] rfl K

set_option maxRecDepth 100000 in
set_option maxHeartbeats 4000000 in
theorem rX8_extendsAll_85 {q : zw_H → Prop} {h : zw_H} {v1 : Int32} (K : (((h.1 56 7) ≤ v1 → q h) ∧ (¬ (h.1 56 7) ≤ v1 → (∃ j1 : Nat, v1 = nI j1 ∧ j1 < 203 ∧ (∃ j2 : Nat, v1 = nI j2 ∧ j2 < 203 ∧ ∀ h3 : zw_H, h3 = zw_sL h 63 j2 (h.2 64 j1) → zwV 3 mX8_extendsAll q 85 [(0, .ref 56), (1, .int (v1 + (1 : Int32)))] [] h3))))) : zwV 3 mX8_extendsAll q 85 [(0, .ref 56), (1, .int v1)] [] h := by
  refine zw_iload_n 1 dX8_extendsAll_85 rfl rfl rfl ?_
  refine zw_aload_n 0 dX8_extendsAll_86 rfl rfl rfl ?_
  refine zw_getI f_X8_52 dX8_extendsAll_87 zs_56 rfl rfl ?_
  refine zw_icmp_ge (tg := 111) dX8_extendsAll_90 (by decide) rfl (fun c => ?_) (fun c => ?_)
  · have K := K.1 c
    exact zw_return dX8_extendsAll_111 rfl (Nat.le_refl 0) (Nat.le_refl 0) ⟨rfl, rfl, K⟩
  · have K := K.2 c
    refine zw_aload_n 0 dX8_extendsAll_93 rfl rfl rfl ?_
    refine zw_getR f_X8_28 dX8_extendsAll_94 zs_56 rfl rfl ?_
    refine zw_iload_n 1 dX8_extendsAll_97 rfl rfl rfl ?_
    refine zw_aload_n 0 dX8_extendsAll_98 rfl rfl rfl ?_
    refine zw_getR f_X8_32 dX8_extendsAll_99 zs_56 rfl rfl ?_
    refine zw_iload_n 1 dX8_extendsAll_102 rfl rfl rfl ?_
    obtain ⟨j1, hj1, hn1, K⟩ := K
    refine zw_lald j1 dX8_extendsAll_103 zs_64 ⟨hj1, hn1⟩ (by decide) rfl ?_
    obtain ⟨j2, hj2, hn2, K⟩ := K
    refine zw_last j2 dX8_extendsAll_104 zs_63 ⟨hj2, hn2⟩ (by decide) rfl ?_
    generalize e3 : zw_sL h 63 j2 (h.2 64 j1) = h3
    have K := K h3 e3.symm
    refine zw_iinc (v := (v1 + (1 : Int32))) 1 dX8_extendsAll_105 rfl rfl (by decide) rfl rfl ?_
    refine zw_goto (np := 85) dX8_extendsAll_108 (by decide) ?_
    exact zw.sub [1, 0] rfl K

set_option maxRecDepth 100000 in
set_option maxHeartbeats 4000000 in
theorem rX8_single_0 {q : zw_H → Prop} {h : zw_H} {v1 : Int32} (K : zwV 0 mX8_single q 2 [(0, .ref 56), (1, .int v1), (2, .int (0 : Int32))] [] h) : zwV 0 mX8_single q 0 [(0, .ref 56), (1, .int v1)] [] h := by
  refine zw_iconst (v := (0 : Int32)) dX8_single_0 (by decide) rfl ?_
  refine zw_istore_n dX8_single_1 rfl (by decide) rfl rfl ?_
  exact zw.sub [1, 2, 0] rfl K

set_option maxRecDepth 100000 in
set_option maxHeartbeats 4000000 in
theorem rX8_single_2 {q : zw_H → Prop} {h : zw_H} {v1 v2 : Int32} (K : (((h.1 56 7) ≤ v2 → q h) ∧ (¬ (h.1 56 7) ≤ v2 → ((¬ v2 = v1 → (∃ j1 : Nat, v2 = nI j1 ∧ j1 < 203 ∧ ∀ h2 : zw_H, h2 = zw_sL h 63 j1 (0 : Int64) → zwV 0 mX8_single q 2 [(0, .ref 56), (1, .int v1), (2, .int (v2 + (1 : Int32)))] [] h2)) ∧ (v2 = v1 → (∃ j3 : Nat, v2 = nI j3 ∧ j3 < 203 ∧ ∀ h4 : zw_H, h4 = zw_sL h 63 j3 (1 : Int64) → zwV 0 mX8_single q 2 [(0, .ref 56), (1, .int v1), (2, .int (v2 + (1 : Int32)))] [] h4)))))) : zwV 0 mX8_single q 2 [(0, .ref 56), (1, .int v1), (2, .int v2)] [] h := by
  refine zw_iload_n 2 dX8_single_2 rfl rfl rfl ?_
  refine zw_aload_n 0 dX8_single_3 rfl rfl rfl ?_
  refine zw_getI f_X8_52 dX8_single_4 zs_56 rfl rfl ?_
  refine zw_icmp_ge (tg := 32) dX8_single_7 (by decide) rfl (fun c => ?_) (fun c => ?_)
  · have K := K.1 c
    exact zw_return dX8_single_32 rfl (Nat.le_refl 0) (Nat.le_refl 0) ⟨rfl, rfl, K⟩
  · have K := K.2 c
    refine zw_aload_n 0 dX8_single_10 rfl rfl rfl ?_
    refine zw_getR f_X8_28 dX8_single_11 zs_56 rfl rfl ?_
    refine zw_iload_n 2 dX8_single_14 rfl rfl rfl ?_
    refine zw_iload_n 2 dX8_single_15 rfl rfl rfl ?_
    refine zw_iload_n 1 dX8_single_16 rfl rfl rfl ?_
    refine zw_icmp_ne (tg := 24) dX8_single_17 (by decide) rfl (fun c => ?_) (fun c => ?_)
    · have K := K.1 c
      refine zw_lconst (v := (0 : Int64)) dX8_single_24 (by decide) rfl ?_
      obtain ⟨j1, hj1, hn1, K⟩ := K
      refine zw_last j1 dX8_single_25 zs_63 ⟨hj1, hn1⟩ (by decide) rfl ?_
      generalize e2 : zw_sL h 63 j1 (0 : Int64) = h2
      have K := K h2 e2.symm
      refine zw_iinc (v := (v2 + (1 : Int32))) 2 dX8_single_26 rfl rfl (by decide) rfl rfl ?_
      refine zw_goto (np := 2) dX8_single_29 (by decide) ?_
      exact zw.sub [1, 2, 0] rfl K
    · have K := K.2 c
      refine zw_lconst (v := (1 : Int64)) dX8_single_20 (by decide) rfl ?_
      refine zw_goto (np := 25) dX8_single_21 (by decide) ?_
      obtain ⟨j3, hj3, hn3, K⟩ := K
      refine zw_last j3 dX8_single_25 zs_63 ⟨hj3, hn3⟩ (by decide) rfl ?_
      generalize e4 : zw_sL h 63 j3 (1 : Int64) = h4
      have K := K h4 e4.symm
      refine zw_iinc (v := (v2 + (1 : Int32))) 2 dX8_single_26 rfl rfl (by decide) rfl rfl ?_
      refine zw_goto (np := 2) dX8_single_29 (by decide) ?_
      exact zw.sub [1, 2, 0] rfl K

set_option maxRecDepth 100000 in
set_option maxHeartbeats 4000000 in
theorem rX8_chains_0 {q : Int64 → zw_H → Prop} {h : zw_H} {v1 v2 v3 : Int32} (K : (∃ q1 : Int32 → zw_H → Prop, zcI 1 mX8_isRegister [.int v1] h q1 ∧ (∀ (x1 : Int32) (h1 : zw_H), q1 x1 h1 → ((x1 = 0 → q (-1 : Int64) h1) ∧ (¬ x1 = 0 → (∃ q2 : Int32 → zw_H → Prop, zcI 1 mX8_isRegister [.int v2] h1 q2 ∧ (∀ (x2 : Int32) (h2 : zw_H), q2 x2 h2 → ((x2 = 0 → q (-1 : Int64) h2) ∧ (¬ x2 = 0 → (∃ q3 : Int32 → zw_H → Prop, zcI 0 mX8_in [.int v3, .int (0 : Int32), .int (5 : Int32)] h2 q3 ∧ (∀ (x3 : Int32) (h3 : zw_H), q3 x3 h3 → ((¬ x3 = 0 → (∃ q4 : Int32 → zw_H → Prop, zcI 3 mX8_wrongAdmitted [.ref 56, .int v1, .int v2] h3 q4 ∧ (∀ (x4 : Int32) (h4 : zw_H), q4 x4 h4 → ((x4 = 0 → (∃ q5 : Int32 → zw_H → Prop, zcI 0 mX8_held [.ref 56, .int v1] h4 q5 ∧ (∀ (x5 : Int32) (h5 : zw_H), q5 x5 h5 → (∃ q6 : zw_H → Prop, zcV 0 mX8_single [.ref 56, .int x5] h5 q6 ∧ (∀ h6 : zw_H, q6 h6 → zwL 4 mX8_chains q 56 [(0, .ref 56), (2, .int v2), (3, .int v3), (5, .int (0 : Int32))] [] h6))))) ∧ (¬ x4 = 0 → q (Int32.toInt64 x4) h4))))) ∧ (x3 = 0 → q (-1 : Int64) h3))))))))))))) : zwL 4 mX8_chains q 0 [(0, .ref 56), (1, .int v1), (2, .int v2), (3, .int v3)] [] h := by
  refine zw_iload_n 1 dX8_chains_0 rfl rfl rfl ?_
  obtain ⟨q1, ct, K⟩ := K
  refine zw_callS (n := 1) (As := [.int v1]) (rest := []) ct my_X8_isRegister rfl rfl k_X8_115 t_X8_isRegister dX8_chains_1 (by decide) (Nat.le_of_ble_eq_true rfl) (Nat.le_refl 0) (Nat.le_refl 0) rfl (fun r s1 h1 hq => ?_)
  obtain ⟨x1, rfl, rfl, hq⟩ := hq
  have K := K x1 h1 hq
  refine zw.st (st' := [.int x1]) rfl ?_
  refine zw_if_eq (tg := 23) dX8_chains_4 (by decide) rfl (fun c => ?_) (fun c => ?_)
  · have K := K.1 c
    refine zw_ldc2 n_X8_199 dX8_chains_23 rfl ?_
    exact zw_lreturn dX8_chains_26 rfl (Nat.le_refl 0) (Nat.le_refl 0) ⟨_, rfl, rfl, K⟩
  · have K := K.2 c
    refine zw_iload_n 2 dX8_chains_7 rfl rfl rfl ?_
    obtain ⟨q2, ct, K⟩ := K
    refine zw_callS (n := 1) (As := [.int v2]) (rest := []) ct my_X8_isRegister rfl rfl k_X8_115 t_X8_isRegister dX8_chains_8 (by decide) (Nat.le_of_ble_eq_true rfl) (Nat.le_refl 0) (Nat.le_refl 0) rfl (fun r s1 h2 hq => ?_)
    obtain ⟨x2, rfl, rfl, hq⟩ := hq
    have K := K x2 h2 hq
    refine zw.st (st' := [.int x2]) rfl ?_
    refine zw_if_eq (tg := 23) dX8_chains_11 (by decide) rfl (fun c => ?_) (fun c => ?_)
    · have K := K.1 c
      refine zw_ldc2 n_X8_199 dX8_chains_23 rfl ?_
      exact zw_lreturn dX8_chains_26 rfl (Nat.le_refl 0) (Nat.le_refl 0) ⟨_, rfl, rfl, K⟩
    · have K := K.2 c
      refine zw_iload_n 3 dX8_chains_14 rfl rfl rfl ?_
      refine zw_iconst (v := (0 : Int32)) dX8_chains_15 (by decide) rfl ?_
      refine zw_iconst (v := (5 : Int32)) dX8_chains_16 (by decide) rfl ?_
      obtain ⟨q3, ct, K⟩ := K
      refine zw_callS (n := 3) (As := [.int v3, .int (0 : Int32), .int (5 : Int32)]) (rest := []) ct my_X8_in rfl rfl k_X8_96 t_X8_in dX8_chains_17 (by decide) (Nat.le_of_ble_eq_true rfl) (Nat.le_refl 0) (Nat.le_refl 0) rfl (fun r s1 h3 hq => ?_)
      obtain ⟨x3, rfl, rfl, hq⟩ := hq
      have K := K x3 h3 hq
      refine zw.st (st' := [.int x3]) rfl ?_
      refine zw_if_ne (tg := 27) dX8_chains_20 (by decide) rfl (fun c => ?_) (fun c => ?_)
      · have K := K.1 c
        refine zw_aload_n 0 dX8_chains_27 rfl rfl rfl ?_
        refine zw_iload_n 1 dX8_chains_28 rfl rfl rfl ?_
        refine zw_iload_n 2 dX8_chains_29 rfl rfl rfl ?_
        obtain ⟨q4, ct, K⟩ := K
        refine zw_callV (n := 2) (As := [.int v1, .int v2]) (rest := []) ct my_X8_wrongAdmitted rfl rfl k_X8_191 i_X8_wrongAdmitted s_X8_wrongAdmitted zs_56 rfl dX8_chains_30 (by decide) (Nat.le_of_ble_eq_true rfl) (Nat.le_refl 0) (Nat.le_refl 0) rfl (fun r s1 h4 hq => ?_)
        obtain ⟨x4, rfl, rfl, hq⟩ := hq
        have K := K x4 h4 hq
        refine zw.st (st' := [.int x4]) rfl ?_
        refine zw_istore dX8_chains_33 (by decide) rfl rfl ?_
        refine zw_iload 0 dX8_chains_35 rfl rfl ?_
        refine zw_if_eq (tg := 44) dX8_chains_37 (by decide) rfl (fun c => ?_) (fun c => ?_)
        · have K := K.1 c
          refine zw_aload_n 1 dX8_chains_44 rfl rfl rfl ?_
          refine zw_aload_n 1 dX8_chains_45 rfl rfl rfl ?_
          refine zw_iload_n 2 dX8_chains_46 rfl rfl rfl ?_
          obtain ⟨q5, ct, K⟩ := K
          refine zw_callV (n := 1) (As := [.int v1]) (rest := [.ref 56]) ct my_X8_held rfl rfl k_X8_128 i_X8_held s_X8_held zs_56 rfl dX8_chains_47 (by decide) (Nat.le_of_ble_eq_true rfl) (Nat.le_refl 0) (Nat.le_refl 0) rfl (fun r s1 h5 hq => ?_)
          obtain ⟨x5, rfl, rfl, hq⟩ := hq
          have K := K x5 h5 hq
          refine zw.st (st' := [.int x5, .ref 56]) rfl ?_
          obtain ⟨q6, ct, K⟩ := K
          refine zw_callV (n := 1) (As := [.int x5]) (rest := []) ct my_X8_single rfl rfl k_X8_201 i_X8_single s_X8_single zs_56 rfl dX8_chains_50 (by decide) (Nat.le_of_ble_eq_true rfl) (Nat.le_refl 0) (Nat.le_refl 0) rfl (fun r s1 h6 hq => ?_)
          obtain ⟨rfl, rfl, hq⟩ := hq
          have K := K h6 hq
          refine zw.st (st' := []) rfl ?_
          refine zw_iconst (v := (0 : Int32)) dX8_chains_53 (by decide) rfl ?_
          refine zw_istore dX8_chains_54 (by decide) rfl rfl ?_
          exact zw.sub [2, 4, 5, 0] rfl K
        · have K := K.2 c
          refine zw_iload 0 dX8_chains_40 rfl rfl ?_
          refine zw_i2l dX8_chains_42 rfl ?_
          exact zw_lreturn dX8_chains_43 rfl (Nat.le_refl 0) (Nat.le_refl 0) ⟨_, rfl, rfl, K⟩
      · have K := K.2 c
        refine zw_ldc2 n_X8_199 dX8_chains_23 rfl ?_
        exact zw_lreturn dX8_chains_26 rfl (Nat.le_refl 0) (Nat.le_refl 0) ⟨_, rfl, rfl, K⟩

set_option maxRecDepth 100000 in
set_option maxHeartbeats 4000000 in
theorem rX8_chains_56 {q : Int64 → zw_H → Prop} {h : zw_H} {v2 v3 v5 : Int32} (K : ((v3 ≤ v5 → (∃ q1 : Int32 → zw_H → Prop, zcI 0 mX8_held [.ref 56, .int v2] h q1 ∧ (∀ (x1 : Int32) (h1 : zw_H), q1 x1 h1 → (∃ j2 : Nat, x1 = nI j2 ∧ j2 < 203 ∧ q (h1.2 63 j2) h1)))) ∧ (¬ v3 ≤ v5 → (∃ q3 : zw_H → Prop, zcV 3 mX8_extendsAll [.ref 56] h q3 ∧ (∀ h3 : zw_H, q3 h3 → zwL 4 mX8_chains q 56 [(0, .ref 56), (2, .int v2), (3, .int v3), (5, .int (v5 + (1 : Int32)))] [] h3))))) : zwL 4 mX8_chains q 56 [(0, .ref 56), (2, .int v2), (3, .int v3), (5, .int v5)] [] h := by
  refine zw_iload 3 dX8_chains_56 rfl rfl ?_
  refine zw_iload_n 2 dX8_chains_58 rfl rfl rfl ?_
  refine zw_icmp_ge (tg := 72) dX8_chains_59 (by decide) rfl (fun c => ?_) (fun c => ?_)
  · have K := K.1 c
    refine zw_aload_n 0 dX8_chains_72 rfl rfl rfl ?_
    refine zw_getR f_X8_28 dX8_chains_73 zs_56 rfl rfl ?_
    refine zw_aload_n 0 dX8_chains_76 rfl rfl rfl ?_
    refine zw_iload_n 1 dX8_chains_77 rfl rfl rfl ?_
    obtain ⟨q1, ct, K⟩ := K
    refine zw_callV (n := 1) (As := [.int v2]) (rest := [.ref 63]) ct my_X8_held rfl rfl k_X8_128 i_X8_held s_X8_held zs_56 rfl dX8_chains_78 (by decide) (Nat.le_of_ble_eq_true rfl) (Nat.le_refl 0) (Nat.le_refl 0) rfl (fun r s1 h1 hq => ?_)
    obtain ⟨x1, rfl, rfl, hq⟩ := hq
    have K := K x1 h1 hq
    refine zw.st (st' := [.int x1, .ref 63]) rfl ?_
    obtain ⟨j2, hj2, hn2, K⟩ := K
    refine zw_lald j2 dX8_chains_81 zs_63 ⟨hj2, hn2⟩ (by decide) rfl ?_
    exact zw_lreturn dX8_chains_82 rfl (Nat.le_refl 0) (Nat.le_refl 0) ⟨_, rfl, rfl, K⟩
  · have K := K.2 c
    refine zw_aload_n 0 dX8_chains_62 rfl rfl rfl ?_
    obtain ⟨q3, ct, K⟩ := K
    refine zw_callV (n := 0) (As := []) (rest := []) ct my_X8_extendsAll rfl rfl k_X8_204 i_X8_extendsAll s_X8_extendsAll zs_56 rfl dX8_chains_63 (by decide) (Nat.le_of_ble_eq_true rfl) (Nat.le_refl 0) (Nat.le_refl 0) rfl (fun r s1 h3 hq => ?_)
    obtain ⟨rfl, rfl, hq⟩ := hq
    have K := K h3 hq
    refine zw.st (st' := []) rfl ?_
    refine zw_iinc (v := (v5 + (1 : Int32))) 3 dX8_chains_66 rfl rfl (by decide) rfl rfl ?_
    refine zw_goto (np := 56) dX8_chains_69 (by decide) ?_
    exact zw.sub [1, 2, 3, 0] rfl K

set_option maxRecDepth 100000 in
set_option maxHeartbeats 4000000 in
theorem rX8_maximalChains_0 {q : Int64 → zw_H → Prop} {h : zw_H} {v1 v2 : Int32} (K : (∃ q1 : Int32 → zw_H → Prop, zcI 3 mX8_wrongAdmitted [.ref 56, .int v1, .int v2] h q1 ∧ (∀ (x1 : Int32) (h1 : zw_H), q1 x1 h1 → ((x1 = 0 → (∃ q2 : Int32 → zw_H → Prop, zcI 0 mX8_held [.ref 56, .int v1] h1 q2 ∧ (∀ (x2 : Int32) (h2 : zw_H), q2 x2 h2 → (∃ q3 : zw_H → Prop, zcV 0 mX8_single [.ref 56, .int x2] h2 q3 ∧ (∀ h3 : zw_H, q3 h3 → zwL 4 mX8_maximalChains q 26 [(0, .ref 56), (1, .int v1), (2, .int v2), (4, .int (0 : Int32))] [] h3))))) ∧ (¬ x1 = 0 → q (Int32.toInt64 x1) h1))))) : zwL 4 mX8_maximalChains q 0 [(0, .ref 56), (1, .int v1), (2, .int v2)] [] h := by
  refine zw_aload_n 0 dX8_maximalChains_0 rfl rfl rfl ?_
  refine zw_iload_n 1 dX8_maximalChains_1 rfl rfl rfl ?_
  refine zw_iload_n 2 dX8_maximalChains_2 rfl rfl rfl ?_
  obtain ⟨q1, ct, K⟩ := K
  refine zw_callV (n := 2) (As := [.int v1, .int v2]) (rest := []) ct my_X8_wrongAdmitted rfl rfl k_X8_191 i_X8_wrongAdmitted s_X8_wrongAdmitted zs_56 rfl dX8_maximalChains_3 (by decide) (Nat.le_of_ble_eq_true rfl) (Nat.le_refl 0) (Nat.le_refl 0) rfl (fun r s1 h1 hq => ?_)
  obtain ⟨x1, rfl, rfl, hq⟩ := hq
  have K := K x1 h1 hq
  refine zw.st (st' := [.int x1]) rfl ?_
  refine zw_istore_n dX8_maximalChains_6 rfl (by decide) rfl rfl ?_
  refine zw_iload_n 0 dX8_maximalChains_7 rfl rfl rfl ?_
  refine zw_if_eq (tg := 14) dX8_maximalChains_8 (by decide) rfl (fun c => ?_) (fun c => ?_)
  · have K := K.1 c
    refine zw_aload_n 1 dX8_maximalChains_14 rfl rfl rfl ?_
    refine zw_aload_n 1 dX8_maximalChains_15 rfl rfl rfl ?_
    refine zw_iload_n 2 dX8_maximalChains_16 rfl rfl rfl ?_
    obtain ⟨q2, ct, K⟩ := K
    refine zw_callV (n := 1) (As := [.int v1]) (rest := [.ref 56]) ct my_X8_held rfl rfl k_X8_128 i_X8_held s_X8_held zs_56 rfl dX8_maximalChains_17 (by decide) (Nat.le_of_ble_eq_true rfl) (Nat.le_refl 0) (Nat.le_refl 0) rfl (fun r s1 h2 hq => ?_)
    obtain ⟨x2, rfl, rfl, hq⟩ := hq
    have K := K x2 h2 hq
    refine zw.st (st' := [.int x2, .ref 56]) rfl ?_
    obtain ⟨q3, ct, K⟩ := K
    refine zw_callV (n := 1) (As := [.int x2]) (rest := []) ct my_X8_single rfl rfl k_X8_201 i_X8_single s_X8_single zs_56 rfl dX8_maximalChains_20 (by decide) (Nat.le_of_ble_eq_true rfl) (Nat.le_refl 0) (Nat.le_refl 0) rfl (fun r s1 h3 hq => ?_)
    obtain ⟨rfl, rfl, hq⟩ := hq
    have K := K h3 hq
    refine zw.st (st' := []) rfl ?_
    refine zw_iconst (v := (0 : Int32)) dX8_maximalChains_23 (by decide) rfl ?_
    refine zw_istore dX8_maximalChains_24 (by decide) rfl rfl ?_
    exact zw.sub [2, 3, 4, 0] rfl K
  · have K := K.2 c
    refine zw_iload_n 0 dX8_maximalChains_11 rfl rfl rfl ?_
    refine zw_i2l dX8_maximalChains_12 rfl ?_
    exact zw_lreturn dX8_maximalChains_13 rfl (Nat.le_refl 0) (Nat.le_refl 0) ⟨_, rfl, rfl, K⟩

set_option maxRecDepth 100000 in
set_option maxHeartbeats 4000000 in
theorem rX8_maximalChains_26 {q : Int64 → zw_H → Prop} {h : zw_H} {v1 v2 v4 : Int32} (K : (((6 : Int32) ≤ v4 → (∃ q1 : Int32 → zw_H → Prop, zcI 0 mX8_held [.ref 56, .int v2] h q1 ∧ (∀ (x1 : Int32) (h1 : zw_H), q1 x1 h1 → (∃ j2 : Nat, x1 = nI j2 ∧ j2 < 203 ∧ q (h1.2 63 j2) h1)))) ∧ (¬ (6 : Int32) ≤ v4 → zwL 4 mX8_maximalChains q 36 [(0, .ref 56), (1, .int v1), (2, .int v2), (4, .int v4), (5, .int (0 : Int32))] [] h))) : zwL 4 mX8_maximalChains q 26 [(0, .ref 56), (1, .int v1), (2, .int v2), (4, .int v4)] [] h := by
  refine zw_iload 3 dX8_maximalChains_26 rfl rfl ?_
  refine zw_bipush (v := (6 : Int32)) dX8_maximalChains_28 (by decide) rfl ?_
  refine zw_icmp_ge (tg := 140) dX8_maximalChains_30 (by decide) rfl (fun c => ?_) (fun c => ?_)
  · have K := K.1 c
    refine zw_aload_n 0 dX8_maximalChains_140 rfl rfl rfl ?_
    refine zw_getR f_X8_28 dX8_maximalChains_141 zs_56 rfl rfl ?_
    refine zw_aload_n 0 dX8_maximalChains_144 rfl rfl rfl ?_
    refine zw_iload_n 2 dX8_maximalChains_145 rfl rfl rfl ?_
    obtain ⟨q1, ct, K⟩ := K
    refine zw_callV (n := 1) (As := [.int v2]) (rest := [.ref 63]) ct my_X8_held rfl rfl k_X8_128 i_X8_held s_X8_held zs_56 rfl dX8_maximalChains_146 (by decide) (Nat.le_of_ble_eq_true rfl) (Nat.le_refl 0) (Nat.le_refl 0) rfl (fun r s1 h1 hq => ?_)
    obtain ⟨x1, rfl, rfl, hq⟩ := hq
    have K := K x1 h1 hq
    refine zw.st (st' := [.int x1, .ref 63]) rfl ?_
    obtain ⟨j2, hj2, hn2, K⟩ := K
    refine zw_lald j2 dX8_maximalChains_149 zs_63 ⟨hj2, hn2⟩ (by decide) rfl ?_
    exact zw_lreturn dX8_maximalChains_150 rfl (Nat.le_refl 0) (Nat.le_refl 0) ⟨_, rfl, rfl, K⟩
  · have K := K.2 c
    refine zw_iconst (v := (0 : Int32)) dX8_maximalChains_33 (by decide) rfl ?_
    refine zw_istore dX8_maximalChains_34 (by decide) rfl rfl ?_
    exact zw.sub [1, 2, 3, 4, 0] rfl K

set_option maxRecDepth 100000 in
set_option maxHeartbeats 4000000 in
theorem rX8_maximalChains_36 {q : Int64 → zw_H → Prop} {h : zw_H} {v1 v2 v4 v5 : Int32} (K : (((h.1 56 7) ≤ v5 → zwL 4 mX8_maximalChains q 26 [(0, .ref 56), (1, .int v1), (2, .int v2), (4, .int (v4 + (1 : Int32)))] [] h) ∧ (¬ (h.1 56 7) ≤ v5 → zwL 4 mX8_maximalChains q 48 [(0, .ref 56), (1, .int v1), (2, .int v2), (4, .int v4), (5, .int v5), (6, .int (0 : Int32))] [] h))) : zwL 4 mX8_maximalChains q 36 [(0, .ref 56), (1, .int v1), (2, .int v2), (4, .int v4), (5, .int v5)] [] h := by
  refine zw_iload 4 dX8_maximalChains_36 rfl rfl ?_
  refine zw_aload_n 0 dX8_maximalChains_38 rfl rfl rfl ?_
  refine zw_getI f_X8_52 dX8_maximalChains_39 zs_56 rfl rfl ?_
  refine zw_icmp_ge (tg := 134) dX8_maximalChains_42 (by decide) rfl (fun c => ?_) (fun c => ?_)
  · have K := K.1 c
    refine zw_iinc (v := (v4 + (1 : Int32))) 3 dX8_maximalChains_134 rfl rfl (by decide) rfl rfl ?_
    refine zw_goto (np := 26) dX8_maximalChains_137 (by decide) ?_
    exact zw.sub [1, 2, 3, 0] rfl K
  · have K := K.2 c
    refine zw_iconst (v := (0 : Int32)) dX8_maximalChains_45 (by decide) rfl ?_
    refine zw_istore dX8_maximalChains_46 (by decide) rfl rfl ?_
    exact zw.sub [1, 2, 3, 4, 5, 0] rfl K

set_option maxRecDepth 100000 in
set_option maxHeartbeats 4000000 in
theorem rX8_maximalChains_48 {q : Int64 → zw_H → Prop} {h : zw_H} {v1 v2 v4 v5 v6 : Int32} (K : (((h.1 56 7) ≤ v6 → zwL 4 mX8_maximalChains q 36 [(0, .ref 56), (1, .int v1), (2, .int v2), (4, .int v4), (5, .int (v5 + (1 : Int32)))] [] h) ∧ (¬ (h.1 56 7) ≤ v6 → (∃ q1 : Int32 → zw_H → Prop, zcI 0 mX8_rank [.ref 56, .int v5] h q1 ∧ (∀ (x1 : Int32) (h1 : zw_H), q1 x1 h1 → ((¬ x1 = v4 → zwL 4 mX8_maximalChains q 36 [(0, .ref 56), (1, .int v1), (2, .int v2), (4, .int v4), (5, .int (v5 + (1 : Int32)))] [] h1) ∧ (x1 = v4 → (∃ q2 : Int32 → zw_H → Prop, zcI 0 mX8_held [.ref 56, .int v1] h1 q2 ∧ (∀ (x2 : Int32) (h2 : zw_H), q2 x2 h2 → ((v5 = x2 → zwL 4 mX8_maximalChains q 36 [(0, .ref 56), (1, .int v1), (2, .int v2), (4, .int v4), (5, .int (v5 + (1 : Int32)))] [] h2) ∧ (¬ v5 = x2 → (∃ j3 : Nat, v5 = nI j3 ∧ j3 < 203 ∧ (∃ j4 : Nat, v6 = nI j4 ∧ j4 < 203 ∧ (((lg_cmp (h2.2 63 j4) (0 : Int64)) = 0 → (∃ j5 : Nat, v5 = nI j5 ∧ j5 < 203 ∧ ∀ h6 : zw_H, h6 = zw_sL h2 63 j5 ((h2.2 63 j3) + (0 : Int64)) → zwL 4 mX8_maximalChains q 48 [(0, .ref 56), (1, .int v1), (2, .int v2), (4, .int v4), (5, .int v5), (6, .int (v6 + (1 : Int32)))] [] h6)) ∧ (¬ (lg_cmp (h2.2 63 j4) (0 : Int64)) = 0 → (∃ q7 : Int32 → zw_H → Prop, zcI 3 mX8_isCover [.ref 56, .int v6, .int v5] h2 q7 ∧ (∀ (x7 : Int32) (h7 : zw_H), q7 x7 h7 → ((x7 = 0 → (∃ j8 : Nat, v5 = nI j8 ∧ j8 < 203 ∧ ∀ h9 : zw_H, h9 = zw_sL h7 63 j8 ((h2.2 63 j3) + (0 : Int64)) → zwL 4 mX8_maximalChains q 48 [(0, .ref 56), (1, .int v1), (2, .int v2), (4, .int v4), (5, .int v5), (6, .int (v6 + (1 : Int32)))] [] h9)) ∧ (¬ x7 = 0 → (∃ j10 : Nat, v6 = nI j10 ∧ j10 < 203 ∧ (∃ j11 : Nat, v5 = nI j11 ∧ j11 < 203 ∧ ∀ h12 : zw_H, h12 = zw_sL h7 63 j11 ((h2.2 63 j3) + (h7.2 63 j10)) → zwL 4 mX8_maximalChains q 48 [(0, .ref 56), (1, .int v1), (2, .int v2), (4, .int v4), (5, .int v5), (6, .int (v6 + (1 : Int32)))] [] h12))))))))))))))))))))) : zwL 4 mX8_maximalChains q 48 [(0, .ref 56), (1, .int v1), (2, .int v2), (4, .int v4), (5, .int v5), (6, .int v6)] [] h := by
  refine zw_iload 5 dX8_maximalChains_48 rfl rfl ?_
  refine zw_aload_n 0 dX8_maximalChains_50 rfl rfl rfl ?_
  refine zw_getI f_X8_52 dX8_maximalChains_51 zs_56 rfl rfl ?_
  refine zw_icmp_ge (tg := 128) dX8_maximalChains_54 (by decide) rfl (fun c => ?_) (fun c => ?_)
  · have K := K.1 c
    refine zw_iinc (v := (v5 + (1 : Int32))) 4 dX8_maximalChains_128 rfl rfl (by decide) rfl rfl ?_
    refine zw_goto (np := 36) dX8_maximalChains_131 (by decide) ?_
    exact zw.sub [1, 2, 3, 4, 0] rfl K
  · have K := K.2 c
    refine zw_aload_n 0 dX8_maximalChains_57 rfl rfl rfl ?_
    refine zw_iload 4 dX8_maximalChains_58 rfl rfl ?_
    obtain ⟨q1, ct, K⟩ := K
    refine zw_callV (n := 1) (As := [.int v5]) (rest := []) ct my_X8_rank rfl rfl k_X8_188 i_X8_rank s_X8_rank zs_56 rfl dX8_maximalChains_60 (by decide) (Nat.le_of_ble_eq_true rfl) (Nat.le_refl 0) (Nat.le_refl 0) rfl (fun r s1 h1 hq => ?_)
    obtain ⟨x1, rfl, rfl, hq⟩ := hq
    have K := K x1 h1 hq
    refine zw.st (st' := [.int x1]) rfl ?_
    refine zw_iload 3 dX8_maximalChains_63 rfl rfl ?_
    refine zw_icmp_ne (tg := 128) dX8_maximalChains_65 (by decide) rfl (fun c => ?_) (fun c => ?_)
    · have K := K.1 c
      refine zw_iinc (v := (v5 + (1 : Int32))) 4 dX8_maximalChains_128 rfl rfl (by decide) rfl rfl ?_
      refine zw_goto (np := 36) dX8_maximalChains_131 (by decide) ?_
      exact zw.sub [1, 2, 3, 4, 0] rfl K
    · have K := K.2 c
      refine zw_iload 4 dX8_maximalChains_68 rfl rfl ?_
      refine zw_aload_n 0 dX8_maximalChains_70 rfl rfl rfl ?_
      refine zw_iload_n 1 dX8_maximalChains_71 rfl rfl rfl ?_
      obtain ⟨q2, ct, K⟩ := K
      refine zw_callV (n := 1) (As := [.int v1]) (rest := [.int v5]) ct my_X8_held rfl rfl k_X8_128 i_X8_held s_X8_held zs_56 rfl dX8_maximalChains_72 (by decide) (Nat.le_of_ble_eq_true rfl) (Nat.le_refl 0) (Nat.le_refl 0) rfl (fun r s1 h2 hq => ?_)
      obtain ⟨x2, rfl, rfl, hq⟩ := hq
      have K := K x2 h2 hq
      refine zw.st (st' := [.int x2, .int v5]) rfl ?_
      refine zw_icmp_eq (tg := 128) dX8_maximalChains_75 (by decide) rfl (fun c => ?_) (fun c => ?_)
      · have K := K.1 c
        refine zw_iinc (v := (v5 + (1 : Int32))) 4 dX8_maximalChains_128 rfl rfl (by decide) rfl rfl ?_
        refine zw_goto (np := 36) dX8_maximalChains_131 (by decide) ?_
        exact zw.sub [1, 2, 3, 4, 0] rfl K
      · have K := K.2 c
        refine zw_aload_n 0 dX8_maximalChains_78 rfl rfl rfl ?_
        refine zw_getR f_X8_28 dX8_maximalChains_79 zs_56 rfl rfl ?_
        refine zw_iload 4 dX8_maximalChains_82 rfl rfl ?_
        refine zw_dup2 dX8_maximalChains_84 rfl rfl rfl ?_
        obtain ⟨j3, hj3, hn3, K⟩ := K
        refine zw_lald j3 dX8_maximalChains_85 zs_63 ⟨hj3, hn3⟩ (by decide) rfl ?_
        refine zw_aload_n 0 dX8_maximalChains_86 rfl rfl rfl ?_
        refine zw_getR f_X8_28 dX8_maximalChains_87 zs_56 rfl rfl ?_
        refine zw_iload 5 dX8_maximalChains_90 rfl rfl ?_
        obtain ⟨j4, hj4, hn4, K⟩ := K
        refine zw_lald j4 dX8_maximalChains_92 zs_63 ⟨hj4, hn4⟩ (by decide) rfl ?_
        refine zw_lconst (v := (0 : Int64)) dX8_maximalChains_93 (by decide) rfl ?_
        refine zw_lcmp dX8_maximalChains_94 rfl ?_
        refine zw_if_eq (tg := 119) dX8_maximalChains_95 (by decide) rfl (fun c => ?_) (fun c => ?_)
        · have K := K.1 c
          refine zw_lconst (v := (0 : Int64)) dX8_maximalChains_119 (by decide) rfl ?_
          refine zw_ladd dX8_maximalChains_120 rfl ?_
          obtain ⟨j5, hj5, hn5, K⟩ := K
          refine zw_last j5 dX8_maximalChains_121 zs_63 ⟨hj5, hn5⟩ (by decide) rfl ?_
          generalize e6 : zw_sL h2 63 j5 ((h2.2 63 j3) + (0 : Int64)) = h6
          have K := K h6 e6.symm
          refine zw_iinc (v := (v6 + (1 : Int32))) 5 dX8_maximalChains_122 rfl rfl (by decide) rfl rfl ?_
          refine zw_goto (np := 48) dX8_maximalChains_125 (by decide) ?_
          exact zw.sub [1, 2, 3, 4, 5, 0] rfl K
        · have K := K.2 c
          refine zw_aload_n 0 dX8_maximalChains_98 rfl rfl rfl ?_
          refine zw_iload 5 dX8_maximalChains_99 rfl rfl ?_
          refine zw_iload 4 dX8_maximalChains_101 rfl rfl ?_
          obtain ⟨q7, ct, K⟩ := K
          refine zw_callV (n := 2) (As := [.int v6, .int v5]) (rest := [.long (h2.2 63 j3), .int v5, .ref 63]) ct my_X8_isCover rfl rfl k_X8_172 i_X8_isCover s_X8_isCover zs_56 rfl dX8_maximalChains_103 (by decide) (Nat.le_of_ble_eq_true rfl) (Nat.le_refl 0) (Nat.le_refl 0) rfl (fun r s1 h7 hq => ?_)
          obtain ⟨x7, rfl, rfl, hq⟩ := hq
          have K := K x7 h7 hq
          refine zw.st (st' := [.int x7, .long (h2.2 63 j3), .int v5, .ref 63]) rfl ?_
          refine zw_if_eq (tg := 119) dX8_maximalChains_106 (by decide) rfl (fun c => ?_) (fun c => ?_)
          · have K := K.1 c
            refine zw_lconst (v := (0 : Int64)) dX8_maximalChains_119 (by decide) rfl ?_
            refine zw_ladd dX8_maximalChains_120 rfl ?_
            obtain ⟨j8, hj8, hn8, K⟩ := K
            refine zw_last j8 dX8_maximalChains_121 zs_63 ⟨hj8, hn8⟩ (by decide) rfl ?_
            generalize e9 : zw_sL h7 63 j8 ((h2.2 63 j3) + (0 : Int64)) = h9
            have K := K h9 e9.symm
            refine zw_iinc (v := (v6 + (1 : Int32))) 5 dX8_maximalChains_122 rfl rfl (by decide) rfl rfl ?_
            refine zw_goto (np := 48) dX8_maximalChains_125 (by decide) ?_
            exact zw.sub [1, 2, 3, 4, 5, 0] rfl K
          · have K := K.2 c
            refine zw_aload_n 0 dX8_maximalChains_109 rfl rfl rfl ?_
            refine zw_getR f_X8_28 dX8_maximalChains_110 zs_56 rfl rfl ?_
            refine zw_iload 5 dX8_maximalChains_113 rfl rfl ?_
            obtain ⟨j10, hj10, hn10, K⟩ := K
            refine zw_lald j10 dX8_maximalChains_115 zs_63 ⟨hj10, hn10⟩ (by decide) rfl ?_
            refine zw_goto (np := 120) dX8_maximalChains_116 (by decide) ?_
            refine zw_ladd dX8_maximalChains_120 rfl ?_
            obtain ⟨j11, hj11, hn11, K⟩ := K
            refine zw_last j11 dX8_maximalChains_121 zs_63 ⟨hj11, hn11⟩ (by decide) rfl ?_
            generalize e12 : zw_sL h7 63 j11 ((h2.2 63 j3) + (h7.2 63 j10)) = h12
            have K := K h12 e12.symm
            refine zw_iinc (v := (v6 + (1 : Int32))) 5 dX8_maximalChains_122 rfl rfl (by decide) rfl rfl ?_
            refine zw_goto (np := 48) dX8_maximalChains_125 (by decide) ?_
            exact zw.sub [1, 2, 3, 4, 5, 0] rfl K

set_option maxRecDepth 100000 in
set_option maxHeartbeats 4000000 in
theorem rX8_height_0 {q : Int32 → zw_H → Prop} {h : zw_H} {v1 v2 : Int32} (K : (∃ q1 : Int32 → zw_H → Prop, zcI 3 mX8_wrongAdmitted [.ref 56, .int v1, .int v2] h q1 ∧ (∀ (x1 : Int32) (h1 : zw_H), q1 x1 h1 → ((x1 = 0 → (∃ q2 : Int32 → zw_H → Prop, zcI 0 mX8_held [.ref 56, .int v1] h1 q2 ∧ (∀ (x2 : Int32) (h2 : zw_H), q2 x2 h2 → (∃ q3 : zw_H → Prop, zcV 0 mX8_single [.ref 56, .int x2] h2 q3 ∧ (∀ h3 : zw_H, q3 h3 → zwI 4 mX8_height q 29 [(0, .ref 56), (2, .int v2), (4, .int (-9 : Int32)), (5, .int (0 : Int32))] [] h3))))) ∧ (¬ x1 = 0 → q x1 h1))))) : zwI 4 mX8_height q 0 [(0, .ref 56), (1, .int v1), (2, .int v2)] [] h := by
  refine zw_aload_n 0 dX8_height_0 rfl rfl rfl ?_
  refine zw_iload_n 1 dX8_height_1 rfl rfl rfl ?_
  refine zw_iload_n 2 dX8_height_2 rfl rfl rfl ?_
  obtain ⟨q1, ct, K⟩ := K
  refine zw_callV (n := 2) (As := [.int v1, .int v2]) (rest := []) ct my_X8_wrongAdmitted rfl rfl k_X8_191 i_X8_wrongAdmitted s_X8_wrongAdmitted zs_56 rfl dX8_height_3 (by decide) (Nat.le_of_ble_eq_true rfl) (Nat.le_refl 0) (Nat.le_refl 0) rfl (fun r s1 h1 hq => ?_)
  obtain ⟨x1, rfl, rfl, hq⟩ := hq
  have K := K x1 h1 hq
  refine zw.st (st' := [.int x1]) rfl ?_
  refine zw_istore_n dX8_height_6 rfl (by decide) rfl rfl ?_
  refine zw_iload_n 0 dX8_height_7 rfl rfl rfl ?_
  refine zw_if_eq (tg := 13) dX8_height_8 (by decide) rfl (fun c => ?_) (fun c => ?_)
  · have K := K.1 c
    refine zw_aload_n 1 dX8_height_13 rfl rfl rfl ?_
    refine zw_aload_n 1 dX8_height_14 rfl rfl rfl ?_
    refine zw_iload_n 2 dX8_height_15 rfl rfl rfl ?_
    obtain ⟨q2, ct, K⟩ := K
    refine zw_callV (n := 1) (As := [.int v1]) (rest := [.ref 56]) ct my_X8_held rfl rfl k_X8_128 i_X8_held s_X8_held zs_56 rfl dX8_height_16 (by decide) (Nat.le_of_ble_eq_true rfl) (Nat.le_refl 0) (Nat.le_refl 0) rfl (fun r s1 h2 hq => ?_)
    obtain ⟨x2, rfl, rfl, hq⟩ := hq
    have K := K x2 h2 hq
    refine zw.st (st' := [.int x2, .ref 56]) rfl ?_
    obtain ⟨q3, ct, K⟩ := K
    refine zw_callV (n := 1) (As := [.int x2]) (rest := []) ct my_X8_single rfl rfl k_X8_201 i_X8_single s_X8_single zs_56 rfl dX8_height_19 (by decide) (Nat.le_of_ble_eq_true rfl) (Nat.le_refl 0) (Nat.le_refl 0) rfl (fun r s1 h3 hq => ?_)
    obtain ⟨rfl, rfl, hq⟩ := hq
    have K := K h3 hq
    refine zw.st (st' := []) rfl ?_
    refine zw_bipush (v := (-9 : Int32)) dX8_height_22 (by decide) rfl ?_
    refine zw_istore dX8_height_24 (by decide) rfl rfl ?_
    refine zw_iconst (v := (0 : Int32)) dX8_height_26 (by decide) rfl ?_
    refine zw_istore dX8_height_27 (by decide) rfl rfl ?_
    exact zw.sub [3, 5, 1, 0] rfl K
  · have K := K.2 c
    refine zw_iload_n 0 dX8_height_11 rfl rfl rfl ?_
    exact zw_ireturn (ty := .int) dX8_height_12 rfl rfl (Nat.le_refl 0) (Nat.le_refl 0) ⟨_, rfl, rfl, K⟩

set_option maxRecDepth 100000 in
set_option maxHeartbeats 4000000 in
theorem rX8_height_29 {q : Int32 → zw_H → Prop} {h : zw_H} {v2 v4 v5 : Int32} (K : (((6 : Int32) ≤ v5 → q v4 h) ∧ (¬ (6 : Int32) ≤ v5 → (∃ q1 : Int32 → zw_H → Prop, zcI 0 mX8_held [.ref 56, .int v2] h q1 ∧ (∀ (x1 : Int32) (h1 : zw_H), q1 x1 h1 → (∃ j2 : Nat, x1 = nI j2 ∧ j2 < 203 ∧ (((lg_cmp (h1.2 63 j2) (0 : Int64)) = 0 → (∃ q3 : zw_H → Prop, zcV 3 mX8_extendsAll [.ref 56] h1 q3 ∧ (∀ h3 : zw_H, q3 h3 → zwI 4 mX8_height q 29 [(0, .ref 56), (2, .int v2), (4, .int v4), (5, .int (v5 + (1 : Int32)))] [] h3))) ∧ (¬ (lg_cmp (h1.2 63 j2) (0 : Int64)) = 0 → (∃ q4 : zw_H → Prop, zcV 3 mX8_extendsAll [.ref 56] h1 q4 ∧ (∀ h4 : zw_H, q4 h4 → zwI 4 mX8_height q 29 [(0, .ref 56), (2, .int v2), (4, .int v5), (5, .int (v5 + (1 : Int32)))] [] h4)))))))))) : zwI 4 mX8_height q 29 [(0, .ref 56), (2, .int v2), (4, .int v4), (5, .int v5)] [] h := by
  refine zw_iload 3 dX8_height_29 rfl rfl ?_
  refine zw_bipush (v := (6 : Int32)) dX8_height_31 (by decide) rfl ?_
  refine zw_icmp_ge (tg := 70) dX8_height_33 (by decide) rfl (fun c => ?_) (fun c => ?_)
  · have K := K.1 c
    refine zw_iload 2 dX8_height_70 rfl rfl ?_
    exact zw_ireturn (ty := .int) dX8_height_72 rfl rfl (Nat.le_refl 0) (Nat.le_refl 0) ⟨_, rfl, rfl, K⟩
  · have K := K.2 c
    refine zw_aload_n 0 dX8_height_36 rfl rfl rfl ?_
    refine zw_getR f_X8_28 dX8_height_37 zs_56 rfl rfl ?_
    refine zw_aload_n 0 dX8_height_40 rfl rfl rfl ?_
    refine zw_iload_n 1 dX8_height_41 rfl rfl rfl ?_
    obtain ⟨q1, ct, K⟩ := K
    refine zw_callV (n := 1) (As := [.int v2]) (rest := [.ref 63]) ct my_X8_held rfl rfl k_X8_128 i_X8_held s_X8_held zs_56 rfl dX8_height_42 (by decide) (Nat.le_of_ble_eq_true rfl) (Nat.le_refl 0) (Nat.le_refl 0) rfl (fun r s1 h1 hq => ?_)
    obtain ⟨x1, rfl, rfl, hq⟩ := hq
    have K := K x1 h1 hq
    refine zw.st (st' := [.int x1, .ref 63]) rfl ?_
    obtain ⟨j2, hj2, hn2, K⟩ := K
    refine zw_lald j2 dX8_height_45 zs_63 ⟨hj2, hn2⟩ (by decide) rfl ?_
    refine zw_lconst (v := (0 : Int64)) dX8_height_46 (by decide) rfl ?_
    refine zw_lcmp dX8_height_47 rfl ?_
    refine zw_if_eq (tg := 56) dX8_height_48 (by decide) rfl (fun c => ?_) (fun c => ?_)
    · have K := K.1 c
      refine zw_iload 2 dX8_height_56 rfl rfl ?_
      refine zw_istore dX8_height_58 (by decide) rfl rfl ?_
      refine zw_aload_n 1 dX8_height_60 rfl rfl rfl ?_
      obtain ⟨q3, ct, K⟩ := K
      refine zw_callV (n := 0) (As := []) (rest := []) ct my_X8_extendsAll rfl rfl k_X8_204 i_X8_extendsAll s_X8_extendsAll zs_56 rfl dX8_height_61 (by decide) (Nat.le_of_ble_eq_true rfl) (Nat.le_refl 0) (Nat.le_refl 0) rfl (fun r s1 h3 hq => ?_)
      obtain ⟨rfl, rfl, hq⟩ := hq
      have K := K h3 hq
      refine zw.st (st' := []) rfl ?_
      refine zw_iinc (v := (v5 + (1 : Int32))) 3 dX8_height_64 rfl rfl (by decide) rfl rfl ?_
      refine zw_goto (np := 29) dX8_height_67 (by decide) ?_
      exact zw.sub [2, 3, 1, 0] rfl K
    · have K := K.2 c
      refine zw_iload 3 dX8_height_51 rfl rfl ?_
      refine zw_goto (np := 58) dX8_height_53 (by decide) ?_
      refine zw_istore dX8_height_58 (by decide) rfl rfl ?_
      refine zw_aload_n 1 dX8_height_60 rfl rfl rfl ?_
      obtain ⟨q4, ct, K⟩ := K
      refine zw_callV (n := 0) (As := []) (rest := []) ct my_X8_extendsAll rfl rfl k_X8_204 i_X8_extendsAll s_X8_extendsAll zs_56 rfl dX8_height_61 (by decide) (Nat.le_of_ble_eq_true rfl) (Nat.le_refl 0) (Nat.le_refl 0) rfl (fun r s1 h4 hq => ?_)
      obtain ⟨rfl, rfl, hq⟩ := hq
      have K := K h4 hq
      refine zw.st (st' := []) rfl ?_
      refine zw_iinc (v := (v5 + (1 : Int32))) 3 dX8_height_64 rfl rfl (by decide) rfl rfl ?_
      refine zw_goto (np := 29) dX8_height_67 (by decide) ?_
      exact zw.sub [2, 3, 1, 0] rfl K

set_option maxRecDepth 100000 in
set_option maxHeartbeats 4000000 in
theorem rX8_power_0 {q : Int64 → zw_H → Prop} {h : zw_H} {v0 v1 : Int32} (K : zwL 0 mX8_power q 5 [(0, .int v0), (1, .int v1), (2, .long (1 : Int64)), (4, .int (0 : Int32))] [] h) : zwL 0 mX8_power q 0 [(0, .int v0), (1, .int v1)] [] h := by
  refine zw_lconst (v := (1 : Int64)) dX8_power_0 (by decide) rfl ?_
  refine zw_lstore_n dX8_power_1 rfl (by decide) rfl rfl ?_
  refine zw_iconst (v := (0 : Int32)) dX8_power_2 (by decide) rfl ?_
  refine zw_istore dX8_power_3 (by decide) rfl rfl ?_
  exact zw.sub [2, 3, 1, 0] rfl K

set_option maxRecDepth 100000 in
set_option maxHeartbeats 4000000 in
theorem rX8_power_5 {q : Int64 → zw_H → Prop} {h : zw_H} {v0 v1 v4 : Int32} {w2 : Int64} (K : ((v1 ≤ v4 → q w2 h) ∧ (¬ v1 ≤ v4 → zwL 0 mX8_power q 5 [(0, .int v0), (1, .int v1), (2, .long (w2 * (Int32.toInt64 v0))), (4, .int (v4 + (1 : Int32)))] [] h))) : zwL 0 mX8_power q 5 [(0, .int v0), (1, .int v1), (2, .long w2), (4, .int v4)] [] h := by
  refine zw_iload 3 dX8_power_5 rfl rfl ?_
  refine zw_iload_n 1 dX8_power_7 rfl rfl rfl ?_
  refine zw_icmp_ge (tg := 22) dX8_power_8 (by decide) rfl (fun c => ?_) (fun c => ?_)
  · have K := K.1 c
    refine zw_lload_n 2 dX8_power_22 rfl rfl rfl ?_
    exact zw_lreturn dX8_power_23 rfl (Nat.le_refl 0) (Nat.le_refl 0) ⟨_, rfl, rfl, K⟩
  · have K := K.2 c
    refine zw_lload_n 2 dX8_power_11 rfl rfl rfl ?_
    refine zw_iload_n 0 dX8_power_12 rfl rfl rfl ?_
    refine zw_i2l dX8_power_13 rfl ?_
    refine zw_lmul dX8_power_14 rfl ?_
    refine zw_lstore_n dX8_power_15 rfl (by decide) rfl rfl ?_
    refine zw_iinc (v := (v4 + (1 : Int32))) 3 dX8_power_16 rfl rfl (by decide) rfl rfl ?_
    refine zw_goto (np := 5) dX8_power_19 (by decide) ?_
    exact zw.sub [2, 3, 1, 0] rfl K

set_option maxRecDepth 100000 in
set_option maxHeartbeats 4000000 in
theorem rX8_isBase_0 {q : Int32 → zw_H → Prop} {h : zw_H} {v0 : Int32} (K : (∃ q1 : Int32 → zw_H → Prop, zcI 0 mX8_in [.int v0, .int (-9 : Int32), .int (9 : Int32)] h q1 ∧ (∀ (x1 : Int32) (h1 : zw_H), q1 x1 h1 → ((x1 = 0 ∨ x1 = 1) ∧ q x1 h1)))) : zwI 1 mX8_isBase q 0 [(0, .int v0)] [] h := by
  refine zw_iload_n 0 dX8_isBase_0 rfl rfl rfl ?_
  refine zw_bipush (v := (-9 : Int32)) dX8_isBase_1 (by decide) rfl ?_
  refine zw_bipush (v := (9 : Int32)) dX8_isBase_3 (by decide) rfl ?_
  obtain ⟨q1, ct, K⟩ := K
  refine zw_callS (n := 3) (As := [.int v0, .int (-9 : Int32), .int (9 : Int32)]) (rest := []) ct my_X8_in rfl rfl k_X8_96 t_X8_in dX8_isBase_5 (by decide) (Nat.le_of_ble_eq_true rfl) (Nat.le_refl 0) (Nat.le_refl 0) rfl (fun r s1 h1 hq => ?_)
  obtain ⟨x1, rfl, rfl, hq⟩ := hq
  have K := K x1 h1 hq
  refine zw.st (st' := [.int x1]) rfl ?_
  obtain ⟨hb, K⟩ := K
  exact zw_ireturn (ty := .boolean) dX8_isBase_8 rfl (zw_nb hb).1 (Nat.le_refl 0) (Nat.le_refl 0) ⟨_, rfl, rfl, K⟩

set_option maxRecDepth 100000 in
set_option maxHeartbeats 4000000 in
theorem rX8_rankSum_0 {q : Int64 → zw_H → Prop} {h : zw_H} {v1 v2 v3 : Int32} (K : (∃ q1 : Int32 → zw_H → Prop, zcI 1 mX8_isBase [.int v3] h q1 ∧ (∀ (x1 : Int32) (h1 : zw_H), q1 x1 h1 → ((x1 = 0 → (((-1 : Int32) = 0 → zwL 3 mX8_rankSum q 38 [(0, .ref 56), (1, .int v1), (2, .int v2), (3, .int v3), (5, .long (0 : Int64)), (7, .int (0 : Int32))] [] h1) ∧ (¬ (-1 : Int32) = 0 → q ((-1000000000 : Int64) + (Int32.toInt64 (-1 : Int32))) h1))) ∧ (¬ x1 = 0 → (∃ q2 : Int32 → zw_H → Prop, zcI 2 mX8_wrongOf [.ref 56, .int v1, .int v2] h1 q2 ∧ (∀ (x2 : Int32) (h2 : zw_H), q2 x2 h2 → ((x2 = 0 → zwL 3 mX8_rankSum q 38 [(0, .ref 56), (1, .int v1), (2, .int v2), (3, .int v3), (5, .long (0 : Int64)), (7, .int (0 : Int32))] [] h2) ∧ (¬ x2 = 0 → q ((-1000000000 : Int64) + (Int32.toInt64 x2)) h2))))))))) : zwL 3 mX8_rankSum q 0 [(0, .ref 56), (1, .int v1), (2, .int v2), (3, .int v3)] [] h := by
  refine zw_iload_n 3 dX8_rankSum_0 rfl rfl rfl ?_
  obtain ⟨q1, ct, K⟩ := K
  refine zw_callS (n := 1) (As := [.int v3]) (rest := []) ct my_X8_isBase rfl rfl k_X8_207 t_X8_isBase dX8_rankSum_1 (by decide) (Nat.le_of_ble_eq_true rfl) (Nat.le_refl 0) (Nat.le_refl 0) rfl (fun r s1 h1 hq => ?_)
  obtain ⟨x1, rfl, rfl, hq⟩ := hq
  have K := K x1 h1 hq
  refine zw.st (st' := [.int x1]) rfl ?_
  refine zw_if_eq (tg := 16) dX8_rankSum_4 (by decide) rfl (fun c => ?_) (fun c => ?_)
  · have K := K.1 c
    refine zw_iconst (v := (-1 : Int32)) dX8_rankSum_16 (by decide) rfl ?_
    refine zw_istore dX8_rankSum_17 (by decide) rfl rfl ?_
    refine zw_iload 0 dX8_rankSum_19 rfl rfl ?_
    refine zw_if_eq (tg := 32) dX8_rankSum_21 (by decide) rfl (fun c => ?_) (fun c => ?_)
    · have K := K.1 c
      refine zw_lconst (v := (0 : Int64)) dX8_rankSum_32 (by decide) rfl ?_
      refine zw_lstore dX8_rankSum_33 (by decide) rfl rfl ?_
      refine zw_iconst (v := (0 : Int32)) dX8_rankSum_35 (by decide) rfl ?_
      refine zw_istore dX8_rankSum_36 (by decide) rfl rfl ?_
      exact zw.sub [3, 4, 5, 6, 1, 0] rfl K
    · have K := K.2 c
      refine zw_ldc2 n_X8_194 dX8_rankSum_24 rfl ?_
      refine zw_iload 0 dX8_rankSum_27 rfl rfl ?_
      refine zw_i2l dX8_rankSum_29 rfl ?_
      refine zw_ladd dX8_rankSum_30 rfl ?_
      exact zw_lreturn dX8_rankSum_31 rfl (Nat.le_refl 0) (Nat.le_refl 0) ⟨_, rfl, rfl, K⟩
  · have K := K.2 c
    refine zw_aload_n 0 dX8_rankSum_7 rfl rfl rfl ?_
    refine zw_iload_n 1 dX8_rankSum_8 rfl rfl rfl ?_
    refine zw_iload_n 2 dX8_rankSum_9 rfl rfl rfl ?_
    obtain ⟨q2, ct, K⟩ := K
    refine zw_callV (n := 2) (As := [.int v1, .int v2]) (rest := []) ct my_X8_wrongOf rfl rfl k_X8_134 i_X8_wrongOf s_X8_wrongOf zs_56 rfl dX8_rankSum_10 (by decide) (Nat.le_of_ble_eq_true rfl) (Nat.le_refl 0) (Nat.le_refl 0) rfl (fun r s1 h2 hq => ?_)
    obtain ⟨x2, rfl, rfl, hq⟩ := hq
    have K := K x2 h2 hq
    refine zw.st (st' := [.int x2]) rfl ?_
    refine zw_goto (np := 17) dX8_rankSum_13 (by decide) ?_
    refine zw_istore dX8_rankSum_17 (by decide) rfl rfl ?_
    refine zw_iload 0 dX8_rankSum_19 rfl rfl ?_
    refine zw_if_eq (tg := 32) dX8_rankSum_21 (by decide) rfl (fun c => ?_) (fun c => ?_)
    · have K := K.1 c
      refine zw_lconst (v := (0 : Int64)) dX8_rankSum_32 (by decide) rfl ?_
      refine zw_lstore dX8_rankSum_33 (by decide) rfl rfl ?_
      refine zw_iconst (v := (0 : Int32)) dX8_rankSum_35 (by decide) rfl ?_
      refine zw_istore dX8_rankSum_36 (by decide) rfl rfl ?_
      exact zw.sub [3, 4, 5, 6, 1, 0] rfl K
    · have K := K.2 c
      refine zw_ldc2 n_X8_194 dX8_rankSum_24 rfl ?_
      refine zw_iload 0 dX8_rankSum_27 rfl rfl ?_
      refine zw_i2l dX8_rankSum_29 rfl ?_
      refine zw_ladd dX8_rankSum_30 rfl ?_
      exact zw_lreturn dX8_rankSum_31 rfl (Nat.le_refl 0) (Nat.le_refl 0) ⟨_, rfl, rfl, K⟩

set_option maxRecDepth 100000 in
set_option maxHeartbeats 4000000 in
theorem rX8_rankSum_38 {q : Int64 → zw_H → Prop} {h : zw_H} {v1 v2 v3 v7 : Int32} {w5 : Int64} (K : (((h.1 56 7) ≤ v7 → q w5 h) ∧ (¬ (h.1 56 7) ≤ v7 → (∃ q1 : Int32 → zw_H → Prop, zcI 0 mX8_held [.ref 56, .int v1] h q1 ∧ (∀ (x1 : Int32) (h1 : zw_H), q1 x1 h1 → (∃ q2 : Int32 → zw_H → Prop, zcI 0 mX8_held [.ref 56, .int v2] h1 q2 ∧ (∀ (x2 : Int32) (h2 : zw_H), q2 x2 h2 → (∃ q3 : Int32 → zw_H → Prop, zcI 2 mX8_isBetween [.ref 56, .int v7, .int x1, .int x2] h2 q3 ∧ (∀ (x3 : Int32) (h3 : zw_H), q3 x3 h3 → ((x3 = 0 → zwL 3 mX8_rankSum q 38 [(0, .ref 56), (1, .int v1), (2, .int v2), (3, .int v3), (5, .long (w5 + (0 : Int64))), (7, .int (v7 + (1 : Int32)))] [] h3) ∧ (¬ x3 = 0 → (∃ q4 : Int32 → zw_H → Prop, zcI 0 mX8_rank [.ref 56, .int v7] h3 q4 ∧ (∀ (x4 : Int32) (h4 : zw_H), q4 x4 h4 → (∃ q5 : Int32 → zw_H → Prop, zcI 0 mX8_held [.ref 56, .int v1] h4 q5 ∧ (∀ (x5 : Int32) (h5 : zw_H), q5 x5 h5 → (∃ q6 : Int32 → zw_H → Prop, zcI 0 mX8_rank [.ref 56, .int x5] h5 q6 ∧ (∀ (x6 : Int32) (h6 : zw_H), q6 x6 h6 → (∃ q7 : Int64 → zw_H → Prop, zcL 0 mX8_power [.int v3, .int (x4 - x6)] h6 q7 ∧ (∀ (x7 : Int64) (h7 : zw_H), q7 x7 h7 → zwL 3 mX8_rankSum q 38 [(0, .ref 56), (1, .int v1), (2, .int v2), (3, .int v3), (5, .long (w5 + x7)), (7, .int (v7 + (1 : Int32)))] [] h7))))))))))))))))))) : zwL 3 mX8_rankSum q 38 [(0, .ref 56), (1, .int v1), (2, .int v2), (3, .int v3), (5, .long w5), (7, .int v7)] [] h := by
  refine zw_iload 5 dX8_rankSum_38 rfl rfl ?_
  refine zw_aload_n 0 dX8_rankSum_40 rfl rfl rfl ?_
  refine zw_getI f_X8_52 dX8_rankSum_41 zs_56 rfl rfl ?_
  refine zw_icmp_ge (tg := 101) dX8_rankSum_44 (by decide) rfl (fun c => ?_) (fun c => ?_)
  · have K := K.1 c
    refine zw_lload 4 dX8_rankSum_101 rfl rfl ?_
    exact zw_lreturn dX8_rankSum_103 rfl (Nat.le_refl 0) (Nat.le_refl 0) ⟨_, rfl, rfl, K⟩
  · have K := K.2 c
    refine zw_lload 4 dX8_rankSum_47 rfl rfl ?_
    refine zw_aload_n 0 dX8_rankSum_49 rfl rfl rfl ?_
    refine zw_iload 5 dX8_rankSum_50 rfl rfl ?_
    refine zw_aload_n 0 dX8_rankSum_52 rfl rfl rfl ?_
    refine zw_iload_n 1 dX8_rankSum_53 rfl rfl rfl ?_
    obtain ⟨q1, ct, K⟩ := K
    refine zw_callV (n := 1) (As := [.int v1]) (rest := [.int v7, .ref 56, .long w5]) ct my_X8_held rfl rfl k_X8_128 i_X8_held s_X8_held zs_56 rfl dX8_rankSum_54 (by decide) (Nat.le_of_ble_eq_true rfl) (Nat.le_refl 0) (Nat.le_refl 0) rfl (fun r s1 h1 hq => ?_)
    obtain ⟨x1, rfl, rfl, hq⟩ := hq
    have K := K x1 h1 hq
    refine zw.st (st' := [.int x1, .int v7, .ref 56, .long w5]) rfl ?_
    refine zw_aload_n 0 dX8_rankSum_57 rfl rfl rfl ?_
    refine zw_iload_n 2 dX8_rankSum_58 rfl rfl rfl ?_
    obtain ⟨q2, ct, K⟩ := K
    refine zw_callV (n := 1) (As := [.int v2]) (rest := [.int x1, .int v7, .ref 56, .long w5]) ct my_X8_held rfl rfl k_X8_128 i_X8_held s_X8_held zs_56 rfl dX8_rankSum_59 (by decide) (Nat.le_of_ble_eq_true rfl) (Nat.le_refl 0) (Nat.le_refl 0) rfl (fun r s1 h2 hq => ?_)
    obtain ⟨x2, rfl, rfl, hq⟩ := hq
    have K := K x2 h2 hq
    refine zw.st (st' := [.int x2, .int x1, .int v7, .ref 56, .long w5]) rfl ?_
    obtain ⟨q3, ct, K⟩ := K
    refine zw_callV (n := 3) (As := [.int v7, .int x1, .int x2]) (rest := [.long w5]) ct my_X8_isBetween rfl rfl k_X8_185 i_X8_isBetween s_X8_isBetween zs_56 rfl dX8_rankSum_62 (by decide) (Nat.le_of_ble_eq_true rfl) (Nat.le_refl 0) (Nat.le_refl 0) rfl (fun r s1 h3 hq => ?_)
    obtain ⟨x3, rfl, rfl, hq⟩ := hq
    have K := K x3 h3 hq
    refine zw.st (st' := [.int x3, .long w5]) rfl ?_
    refine zw_if_eq (tg := 91) dX8_rankSum_65 (by decide) rfl (fun c => ?_) (fun c => ?_)
    · have K := K.1 c
      refine zw_lconst (v := (0 : Int64)) dX8_rankSum_91 (by decide) rfl ?_
      refine zw_ladd dX8_rankSum_92 rfl ?_
      refine zw_lstore dX8_rankSum_93 (by decide) rfl rfl ?_
      refine zw_iinc (v := (v7 + (1 : Int32))) 5 dX8_rankSum_95 rfl rfl (by decide) rfl rfl ?_
      refine zw_goto (np := 38) dX8_rankSum_98 (by decide) ?_
      exact zw.sub [2, 3, 4, 5, 1, 0] rfl K
    · have K := K.2 c
      refine zw_iload_n 3 dX8_rankSum_68 rfl rfl rfl ?_
      refine zw_aload_n 0 dX8_rankSum_69 rfl rfl rfl ?_
      refine zw_iload 5 dX8_rankSum_70 rfl rfl ?_
      obtain ⟨q4, ct, K⟩ := K
      refine zw_callV (n := 1) (As := [.int v7]) (rest := [.int v3, .long w5]) ct my_X8_rank rfl rfl k_X8_188 i_X8_rank s_X8_rank zs_56 rfl dX8_rankSum_72 (by decide) (Nat.le_of_ble_eq_true rfl) (Nat.le_refl 0) (Nat.le_refl 0) rfl (fun r s1 h4 hq => ?_)
      obtain ⟨x4, rfl, rfl, hq⟩ := hq
      have K := K x4 h4 hq
      refine zw.st (st' := [.int x4, .int v3, .long w5]) rfl ?_
      refine zw_aload_n 0 dX8_rankSum_75 rfl rfl rfl ?_
      refine zw_aload_n 0 dX8_rankSum_76 rfl rfl rfl ?_
      refine zw_iload_n 1 dX8_rankSum_77 rfl rfl rfl ?_
      obtain ⟨q5, ct, K⟩ := K
      refine zw_callV (n := 1) (As := [.int v1]) (rest := [.ref 56, .int x4, .int v3, .long w5]) ct my_X8_held rfl rfl k_X8_128 i_X8_held s_X8_held zs_56 rfl dX8_rankSum_78 (by decide) (Nat.le_of_ble_eq_true rfl) (Nat.le_refl 0) (Nat.le_refl 0) rfl (fun r s1 h5 hq => ?_)
      obtain ⟨x5, rfl, rfl, hq⟩ := hq
      have K := K x5 h5 hq
      refine zw.st (st' := [.int x5, .ref 56, .int x4, .int v3, .long w5]) rfl ?_
      obtain ⟨q6, ct, K⟩ := K
      refine zw_callV (n := 1) (As := [.int x5]) (rest := [.int x4, .int v3, .long w5]) ct my_X8_rank rfl rfl k_X8_188 i_X8_rank s_X8_rank zs_56 rfl dX8_rankSum_81 (by decide) (Nat.le_of_ble_eq_true rfl) (Nat.le_refl 0) (Nat.le_refl 0) rfl (fun r s1 h6 hq => ?_)
      obtain ⟨x6, rfl, rfl, hq⟩ := hq
      have K := K x6 h6 hq
      refine zw.st (st' := [.int x6, .int x4, .int v3, .long w5]) rfl ?_
      refine zw_isub dX8_rankSum_84 rfl ?_
      obtain ⟨q7, ct, K⟩ := K
      refine zw_callS (n := 2) (As := [.int v3, .int (x4 - x6)]) (rest := [.long w5]) ct my_X8_power rfl rfl k_X8_210 t_X8_power dX8_rankSum_85 (by decide) (Nat.le_of_ble_eq_true rfl) (Nat.le_refl 0) (Nat.le_refl 0) rfl (fun r s1 h7 hq => ?_)
      obtain ⟨x7, rfl, rfl, hq⟩ := hq
      have K := K x7 h7 hq
      refine zw.st (st' := [.long x7, .long w5]) rfl ?_
      refine zw_goto (np := 92) dX8_rankSum_88 (by decide) ?_
      refine zw_ladd dX8_rankSum_92 rfl ?_
      refine zw_lstore dX8_rankSum_93 (by decide) rfl rfl ?_
      refine zw_iinc (v := (v7 + (1 : Int32))) 5 dX8_rankSum_95 rfl rfl (by decide) rfl rfl ?_
      refine zw_goto (np := 38) dX8_rankSum_98 (by decide) ?_
      exact zw.sub [2, 3, 4, 5, 1, 0] rfl K

set_option maxRecDepth 100000 in
set_option maxHeartbeats 4000000 in
theorem rX8_characteristic_0 {q : Int64 → zw_H → Prop} {h : zw_H} {v1 v2 v3 : Int32} (K : (∃ q1 : Int32 → zw_H → Prop, zcI 1 mX8_isBase [.int v3] h q1 ∧ (∀ (x1 : Int32) (h1 : zw_H), q1 x1 h1 → ((x1 = 0 → ((¬ (-1 : Int32) = 0 → (((-1 : Int32) = 0 → (∃ q2 : Int32 → zw_H → Prop, zcI 0 mX8_held [.ref 56, .int v1] h1 q2 ∧ (∀ (x2 : Int32) (h2 : zw_H), q2 x2 h2 → (∃ q3 : Int32 → zw_H → Prop, zcI 0 mX8_held [.ref 56, .int v2] h2 q3 ∧ (∀ (x3 : Int32) (h3 : zw_H), q3 x3 h3 → (∃ q4 : zw_H → Prop, zcV 3 mX8_moebiuses [.ref 56, .int x2, .int x3] h3 q4 ∧ (∀ h4 : zw_H, q4 h4 → zwL 4 mX8_characteristic q 78 [(0, .ref 56), (1, .int v1), (2, .int v2), (3, .int v3), (5, .long (0 : Int64)), (7, .int (0 : Int32))] [] h4))))))) ∧ (¬ (-1 : Int32) = 0 → q ((-1000000000 : Int64) + (Int32.toInt64 (-1 : Int32))) h1))) ∧ ((-1 : Int32) = 0 → (∃ q5 : Int32 → zw_H → Prop, zcI 0 mX8_held [.ref 56, .int v1] h1 q5 ∧ (∀ (x5 : Int32) (h5 : zw_H), q5 x5 h5 → (∃ q6 : Int32 → zw_H → Prop, zcI 0 mX8_isAdmitted [.ref 56, .int x5] h5 q6 ∧ (∀ (x6 : Int32) (h6 : zw_H), q6 x6 h6 → ((¬ x6 = 0 → (((-1 : Int32) = 0 → (∃ q7 : Int32 → zw_H → Prop, zcI 0 mX8_held [.ref 56, .int v1] h6 q7 ∧ (∀ (x7 : Int32) (h7 : zw_H), q7 x7 h7 → (∃ q8 : Int32 → zw_H → Prop, zcI 0 mX8_held [.ref 56, .int v2] h7 q8 ∧ (∀ (x8 : Int32) (h8 : zw_H), q8 x8 h8 → (∃ q9 : zw_H → Prop, zcV 3 mX8_moebiuses [.ref 56, .int x7, .int x8] h8 q9 ∧ (∀ h9 : zw_H, q9 h9 → zwL 4 mX8_characteristic q 78 [(0, .ref 56), (1, .int v1), (2, .int v2), (3, .int v3), (5, .long (0 : Int64)), (7, .int (0 : Int32))] [] h9))))))) ∧ (¬ (-1 : Int32) = 0 → q ((-1000000000 : Int64) + (Int32.toInt64 (-1 : Int32))) h6))) ∧ (x6 = 0 → (((-3 : Int32) = 0 → (∃ q10 : Int32 → zw_H → Prop, zcI 0 mX8_held [.ref 56, .int v1] h6 q10 ∧ (∀ (x10 : Int32) (h10 : zw_H), q10 x10 h10 → (∃ q11 : Int32 → zw_H → Prop, zcI 0 mX8_held [.ref 56, .int v2] h10 q11 ∧ (∀ (x11 : Int32) (h11 : zw_H), q11 x11 h11 → (∃ q12 : zw_H → Prop, zcV 3 mX8_moebiuses [.ref 56, .int x10, .int x11] h11 q12 ∧ (∀ h12 : zw_H, q12 h12 → zwL 4 mX8_characteristic q 78 [(0, .ref 56), (1, .int v1), (2, .int v2), (3, .int v3), (5, .long (0 : Int64)), (7, .int (0 : Int32))] [] h12))))))) ∧ (¬ (-3 : Int32) = 0 → q ((-1000000000 : Int64) + (Int32.toInt64 (-3 : Int32))) h6))))))))))) ∧ (¬ x1 = 0 → (∃ q13 : Int32 → zw_H → Prop, zcI 2 mX8_wrongOf [.ref 56, .int v1, .int v2] h1 q13 ∧ (∀ (x13 : Int32) (h13 : zw_H), q13 x13 h13 → ((¬ x13 = 0 → ((x13 = 0 → (∃ q14 : Int32 → zw_H → Prop, zcI 0 mX8_held [.ref 56, .int v1] h13 q14 ∧ (∀ (x14 : Int32) (h14 : zw_H), q14 x14 h14 → (∃ q15 : Int32 → zw_H → Prop, zcI 0 mX8_held [.ref 56, .int v2] h14 q15 ∧ (∀ (x15 : Int32) (h15 : zw_H), q15 x15 h15 → (∃ q16 : zw_H → Prop, zcV 3 mX8_moebiuses [.ref 56, .int x14, .int x15] h15 q16 ∧ (∀ h16 : zw_H, q16 h16 → zwL 4 mX8_characteristic q 78 [(0, .ref 56), (1, .int v1), (2, .int v2), (3, .int v3), (5, .long (0 : Int64)), (7, .int (0 : Int32))] [] h16))))))) ∧ (¬ x13 = 0 → q ((-1000000000 : Int64) + (Int32.toInt64 x13)) h13))) ∧ (x13 = 0 → (∃ q17 : Int32 → zw_H → Prop, zcI 0 mX8_held [.ref 56, .int v1] h13 q17 ∧ (∀ (x17 : Int32) (h17 : zw_H), q17 x17 h17 → (∃ q18 : Int32 → zw_H → Prop, zcI 0 mX8_isAdmitted [.ref 56, .int x17] h17 q18 ∧ (∀ (x18 : Int32) (h18 : zw_H), q18 x18 h18 → ((¬ x18 = 0 → ((x13 = 0 → (∃ q19 : Int32 → zw_H → Prop, zcI 0 mX8_held [.ref 56, .int v1] h18 q19 ∧ (∀ (x19 : Int32) (h19 : zw_H), q19 x19 h19 → (∃ q20 : Int32 → zw_H → Prop, zcI 0 mX8_held [.ref 56, .int v2] h19 q20 ∧ (∀ (x20 : Int32) (h20 : zw_H), q20 x20 h20 → (∃ q21 : zw_H → Prop, zcV 3 mX8_moebiuses [.ref 56, .int x19, .int x20] h20 q21 ∧ (∀ h21 : zw_H, q21 h21 → zwL 4 mX8_characteristic q 78 [(0, .ref 56), (1, .int v1), (2, .int v2), (3, .int v3), (5, .long (0 : Int64)), (7, .int (0 : Int32))] [] h21))))))) ∧ (¬ x13 = 0 → q ((-1000000000 : Int64) + (Int32.toInt64 x13)) h18))) ∧ (x18 = 0 → (((-3 : Int32) = 0 → (∃ q22 : Int32 → zw_H → Prop, zcI 0 mX8_held [.ref 56, .int v1] h18 q22 ∧ (∀ (x22 : Int32) (h22 : zw_H), q22 x22 h22 → (∃ q23 : Int32 → zw_H → Prop, zcI 0 mX8_held [.ref 56, .int v2] h22 q23 ∧ (∀ (x23 : Int32) (h23 : zw_H), q23 x23 h23 → (∃ q24 : zw_H → Prop, zcV 3 mX8_moebiuses [.ref 56, .int x22, .int x23] h23 q24 ∧ (∀ h24 : zw_H, q24 h24 → zwL 4 mX8_characteristic q 78 [(0, .ref 56), (1, .int v1), (2, .int v2), (3, .int v3), (5, .long (0 : Int64)), (7, .int (0 : Int32))] [] h24))))))) ∧ (¬ (-3 : Int32) = 0 → q ((-1000000000 : Int64) + (Int32.toInt64 (-3 : Int32))) h18))))))))))))))))) : zwL 4 mX8_characteristic q 0 [(0, .ref 56), (1, .int v1), (2, .int v2), (3, .int v3)] [] h := by
  refine zw_iload_n 3 dX8_characteristic_0 rfl rfl rfl ?_
  obtain ⟨q1, ct, K⟩ := K
  refine zw_callS (n := 1) (As := [.int v3]) (rest := []) ct my_X8_isBase rfl rfl k_X8_207 t_X8_isBase dX8_characteristic_1 (by decide) (Nat.le_of_ble_eq_true rfl) (Nat.le_refl 0) (Nat.le_refl 0) rfl (fun r s1 h1 hq => ?_)
  obtain ⟨x1, rfl, rfl, hq⟩ := hq
  have K := K x1 h1 hq
  refine zw.st (st' := [.int x1]) rfl ?_
  refine zw_if_eq (tg := 16) dX8_characteristic_4 (by decide) rfl (fun c => ?_) (fun c => ?_)
  · have K := K.1 c
    refine zw_iconst (v := (-1 : Int32)) dX8_characteristic_16 (by decide) rfl ?_
    refine zw_istore dX8_characteristic_17 (by decide) rfl rfl ?_
    refine zw_iload 0 dX8_characteristic_19 rfl rfl ?_
    refine zw_if_ne (tg := 41) dX8_characteristic_21 (by decide) rfl (fun c => ?_) (fun c => ?_)
    · have K := K.1 c
      refine zw_iload 0 dX8_characteristic_41 rfl rfl ?_
      refine zw_istore dX8_characteristic_43 (by decide) rfl rfl ?_
      refine zw_iload 0 dX8_characteristic_45 rfl rfl ?_
      refine zw_if_eq (tg := 58) dX8_characteristic_47 (by decide) rfl (fun c => ?_) (fun c => ?_)
      · have K := K.1 c
        refine zw_aload_n 1 dX8_characteristic_58 rfl rfl rfl ?_
        refine zw_aload_n 1 dX8_characteristic_59 rfl rfl rfl ?_
        refine zw_iload_n 2 dX8_characteristic_60 rfl rfl rfl ?_
        obtain ⟨q2, ct, K⟩ := K
        refine zw_callV (n := 1) (As := [.int v1]) (rest := [.ref 56]) ct my_X8_held rfl rfl k_X8_128 i_X8_held s_X8_held zs_56 rfl dX8_characteristic_61 (by decide) (Nat.le_of_ble_eq_true rfl) (Nat.le_refl 0) (Nat.le_refl 0) rfl (fun r s1 h2 hq => ?_)
        obtain ⟨x2, rfl, rfl, hq⟩ := hq
        have K := K x2 h2 hq
        refine zw.st (st' := [.int x2, .ref 56]) rfl ?_
        refine zw_aload_n 1 dX8_characteristic_64 rfl rfl rfl ?_
        refine zw_iload_n 3 dX8_characteristic_65 rfl rfl rfl ?_
        obtain ⟨q3, ct, K⟩ := K
        refine zw_callV (n := 1) (As := [.int v2]) (rest := [.int x2, .ref 56]) ct my_X8_held rfl rfl k_X8_128 i_X8_held s_X8_held zs_56 rfl dX8_characteristic_66 (by decide) (Nat.le_of_ble_eq_true rfl) (Nat.le_refl 0) (Nat.le_refl 0) rfl (fun r s1 h3 hq => ?_)
        obtain ⟨x3, rfl, rfl, hq⟩ := hq
        have K := K x3 h3 hq
        refine zw.st (st' := [.int x3, .int x2, .ref 56]) rfl ?_
        obtain ⟨q4, ct, K⟩ := K
        refine zw_callV (n := 2) (As := [.int x2, .int x3]) (rest := []) ct my_X8_moebiuses rfl rfl k_X8_196 i_X8_moebiuses s_X8_moebiuses zs_56 rfl dX8_characteristic_69 (by decide) (Nat.le_of_ble_eq_true rfl) (Nat.le_refl 0) (Nat.le_refl 0) rfl (fun r s1 h4 hq => ?_)
        obtain ⟨rfl, rfl, hq⟩ := hq
        have K := K h4 hq
        refine zw.st (st' := []) rfl ?_
        refine zw_lconst (v := (0 : Int64)) dX8_characteristic_72 (by decide) rfl ?_
        refine zw_lstore dX8_characteristic_73 (by decide) rfl rfl ?_
        refine zw_iconst (v := (0 : Int32)) dX8_characteristic_75 (by decide) rfl ?_
        refine zw_istore dX8_characteristic_76 (by decide) rfl rfl ?_
        exact zw.sub [3, 4, 5, 6, 1, 0] rfl K
      · have K := K.2 c
        refine zw_ldc2 n_X8_194 dX8_characteristic_50 rfl ?_
        refine zw_iload 0 dX8_characteristic_53 rfl rfl ?_
        refine zw_i2l dX8_characteristic_55 rfl ?_
        refine zw_ladd dX8_characteristic_56 rfl ?_
        exact zw_lreturn dX8_characteristic_57 rfl (Nat.le_refl 0) (Nat.le_refl 0) ⟨_, rfl, rfl, K⟩
    · have K := K.2 c
      refine zw_aload_n 1 dX8_characteristic_24 rfl rfl rfl ?_
      refine zw_aload_n 1 dX8_characteristic_25 rfl rfl rfl ?_
      refine zw_iload_n 2 dX8_characteristic_26 rfl rfl rfl ?_
      obtain ⟨q5, ct, K⟩ := K
      refine zw_callV (n := 1) (As := [.int v1]) (rest := [.ref 56]) ct my_X8_held rfl rfl k_X8_128 i_X8_held s_X8_held zs_56 rfl dX8_characteristic_27 (by decide) (Nat.le_of_ble_eq_true rfl) (Nat.le_refl 0) (Nat.le_refl 0) rfl (fun r s1 h5 hq => ?_)
      obtain ⟨x5, rfl, rfl, hq⟩ := hq
      have K := K x5 h5 hq
      refine zw.st (st' := [.int x5, .ref 56]) rfl ?_
      obtain ⟨q6, ct, K⟩ := K
      refine zw_callV (n := 1) (As := [.int x5]) (rest := []) ct my_X8_isAdmitted rfl rfl k_X8_150 i_X8_isAdmitted s_X8_isAdmitted zs_56 rfl dX8_characteristic_30 (by decide) (Nat.le_of_ble_eq_true rfl) (Nat.le_refl 0) (Nat.le_refl 0) rfl (fun r s1 h6 hq => ?_)
      obtain ⟨x6, rfl, rfl, hq⟩ := hq
      have K := K x6 h6 hq
      refine zw.st (st' := [.int x6]) rfl ?_
      refine zw_if_ne (tg := 41) dX8_characteristic_33 (by decide) rfl (fun c => ?_) (fun c => ?_)
      · have K := K.1 c
        refine zw_iload 0 dX8_characteristic_41 rfl rfl ?_
        refine zw_istore dX8_characteristic_43 (by decide) rfl rfl ?_
        refine zw_iload 0 dX8_characteristic_45 rfl rfl ?_
        refine zw_if_eq (tg := 58) dX8_characteristic_47 (by decide) rfl (fun c => ?_) (fun c => ?_)
        · have K := K.1 c
          refine zw_aload_n 1 dX8_characteristic_58 rfl rfl rfl ?_
          refine zw_aload_n 1 dX8_characteristic_59 rfl rfl rfl ?_
          refine zw_iload_n 2 dX8_characteristic_60 rfl rfl rfl ?_
          obtain ⟨q7, ct, K⟩ := K
          refine zw_callV (n := 1) (As := [.int v1]) (rest := [.ref 56]) ct my_X8_held rfl rfl k_X8_128 i_X8_held s_X8_held zs_56 rfl dX8_characteristic_61 (by decide) (Nat.le_of_ble_eq_true rfl) (Nat.le_refl 0) (Nat.le_refl 0) rfl (fun r s1 h7 hq => ?_)
          obtain ⟨x7, rfl, rfl, hq⟩ := hq
          have K := K x7 h7 hq
          refine zw.st (st' := [.int x7, .ref 56]) rfl ?_
          refine zw_aload_n 1 dX8_characteristic_64 rfl rfl rfl ?_
          refine zw_iload_n 3 dX8_characteristic_65 rfl rfl rfl ?_
          obtain ⟨q8, ct, K⟩ := K
          refine zw_callV (n := 1) (As := [.int v2]) (rest := [.int x7, .ref 56]) ct my_X8_held rfl rfl k_X8_128 i_X8_held s_X8_held zs_56 rfl dX8_characteristic_66 (by decide) (Nat.le_of_ble_eq_true rfl) (Nat.le_refl 0) (Nat.le_refl 0) rfl (fun r s1 h8 hq => ?_)
          obtain ⟨x8, rfl, rfl, hq⟩ := hq
          have K := K x8 h8 hq
          refine zw.st (st' := [.int x8, .int x7, .ref 56]) rfl ?_
          obtain ⟨q9, ct, K⟩ := K
          refine zw_callV (n := 2) (As := [.int x7, .int x8]) (rest := []) ct my_X8_moebiuses rfl rfl k_X8_196 i_X8_moebiuses s_X8_moebiuses zs_56 rfl dX8_characteristic_69 (by decide) (Nat.le_of_ble_eq_true rfl) (Nat.le_refl 0) (Nat.le_refl 0) rfl (fun r s1 h9 hq => ?_)
          obtain ⟨rfl, rfl, hq⟩ := hq
          have K := K h9 hq
          refine zw.st (st' := []) rfl ?_
          refine zw_lconst (v := (0 : Int64)) dX8_characteristic_72 (by decide) rfl ?_
          refine zw_lstore dX8_characteristic_73 (by decide) rfl rfl ?_
          refine zw_iconst (v := (0 : Int32)) dX8_characteristic_75 (by decide) rfl ?_
          refine zw_istore dX8_characteristic_76 (by decide) rfl rfl ?_
          exact zw.sub [3, 4, 5, 6, 1, 0] rfl K
        · have K := K.2 c
          refine zw_ldc2 n_X8_194 dX8_characteristic_50 rfl ?_
          refine zw_iload 0 dX8_characteristic_53 rfl rfl ?_
          refine zw_i2l dX8_characteristic_55 rfl ?_
          refine zw_ladd dX8_characteristic_56 rfl ?_
          exact zw_lreturn dX8_characteristic_57 rfl (Nat.le_refl 0) (Nat.le_refl 0) ⟨_, rfl, rfl, K⟩
      · have K := K.2 c
        refine zw_bipush (v := (-3 : Int32)) dX8_characteristic_36 (by decide) rfl ?_
        refine zw_goto (np := 43) dX8_characteristic_38 (by decide) ?_
        refine zw_istore dX8_characteristic_43 (by decide) rfl rfl ?_
        refine zw_iload 0 dX8_characteristic_45 rfl rfl ?_
        refine zw_if_eq (tg := 58) dX8_characteristic_47 (by decide) rfl (fun c => ?_) (fun c => ?_)
        · have K := K.1 c
          refine zw_aload_n 1 dX8_characteristic_58 rfl rfl rfl ?_
          refine zw_aload_n 1 dX8_characteristic_59 rfl rfl rfl ?_
          refine zw_iload_n 2 dX8_characteristic_60 rfl rfl rfl ?_
          obtain ⟨q10, ct, K⟩ := K
          refine zw_callV (n := 1) (As := [.int v1]) (rest := [.ref 56]) ct my_X8_held rfl rfl k_X8_128 i_X8_held s_X8_held zs_56 rfl dX8_characteristic_61 (by decide) (Nat.le_of_ble_eq_true rfl) (Nat.le_refl 0) (Nat.le_refl 0) rfl (fun r s1 h10 hq => ?_)
          obtain ⟨x10, rfl, rfl, hq⟩ := hq
          have K := K x10 h10 hq
          refine zw.st (st' := [.int x10, .ref 56]) rfl ?_
          refine zw_aload_n 1 dX8_characteristic_64 rfl rfl rfl ?_
          refine zw_iload_n 3 dX8_characteristic_65 rfl rfl rfl ?_
          obtain ⟨q11, ct, K⟩ := K
          refine zw_callV (n := 1) (As := [.int v2]) (rest := [.int x10, .ref 56]) ct my_X8_held rfl rfl k_X8_128 i_X8_held s_X8_held zs_56 rfl dX8_characteristic_66 (by decide) (Nat.le_of_ble_eq_true rfl) (Nat.le_refl 0) (Nat.le_refl 0) rfl (fun r s1 h11 hq => ?_)
          obtain ⟨x11, rfl, rfl, hq⟩ := hq
          have K := K x11 h11 hq
          refine zw.st (st' := [.int x11, .int x10, .ref 56]) rfl ?_
          obtain ⟨q12, ct, K⟩ := K
          refine zw_callV (n := 2) (As := [.int x10, .int x11]) (rest := []) ct my_X8_moebiuses rfl rfl k_X8_196 i_X8_moebiuses s_X8_moebiuses zs_56 rfl dX8_characteristic_69 (by decide) (Nat.le_of_ble_eq_true rfl) (Nat.le_refl 0) (Nat.le_refl 0) rfl (fun r s1 h12 hq => ?_)
          obtain ⟨rfl, rfl, hq⟩ := hq
          have K := K h12 hq
          refine zw.st (st' := []) rfl ?_
          refine zw_lconst (v := (0 : Int64)) dX8_characteristic_72 (by decide) rfl ?_
          refine zw_lstore dX8_characteristic_73 (by decide) rfl rfl ?_
          refine zw_iconst (v := (0 : Int32)) dX8_characteristic_75 (by decide) rfl ?_
          refine zw_istore dX8_characteristic_76 (by decide) rfl rfl ?_
          exact zw.sub [3, 4, 5, 6, 1, 0] rfl K
        · have K := K.2 c
          refine zw_ldc2 n_X8_194 dX8_characteristic_50 rfl ?_
          refine zw_iload 0 dX8_characteristic_53 rfl rfl ?_
          refine zw_i2l dX8_characteristic_55 rfl ?_
          refine zw_ladd dX8_characteristic_56 rfl ?_
          exact zw_lreturn dX8_characteristic_57 rfl (Nat.le_refl 0) (Nat.le_refl 0) ⟨_, rfl, rfl, K⟩
  · have K := K.2 c
    refine zw_aload_n 0 dX8_characteristic_7 rfl rfl rfl ?_
    refine zw_iload_n 1 dX8_characteristic_8 rfl rfl rfl ?_
    refine zw_iload_n 2 dX8_characteristic_9 rfl rfl rfl ?_
    obtain ⟨q13, ct, K⟩ := K
    refine zw_callV (n := 2) (As := [.int v1, .int v2]) (rest := []) ct my_X8_wrongOf rfl rfl k_X8_134 i_X8_wrongOf s_X8_wrongOf zs_56 rfl dX8_characteristic_10 (by decide) (Nat.le_of_ble_eq_true rfl) (Nat.le_refl 0) (Nat.le_refl 0) rfl (fun r s1 h13 hq => ?_)
    obtain ⟨x13, rfl, rfl, hq⟩ := hq
    have K := K x13 h13 hq
    refine zw.st (st' := [.int x13]) rfl ?_
    refine zw_goto (np := 17) dX8_characteristic_13 (by decide) ?_
    refine zw_istore dX8_characteristic_17 (by decide) rfl rfl ?_
    refine zw_iload 0 dX8_characteristic_19 rfl rfl ?_
    refine zw_if_ne (tg := 41) dX8_characteristic_21 (by decide) rfl (fun c => ?_) (fun c => ?_)
    · have K := K.1 c
      refine zw_iload 0 dX8_characteristic_41 rfl rfl ?_
      refine zw_istore dX8_characteristic_43 (by decide) rfl rfl ?_
      refine zw_iload 0 dX8_characteristic_45 rfl rfl ?_
      refine zw_if_eq (tg := 58) dX8_characteristic_47 (by decide) rfl (fun c => ?_) (fun c => ?_)
      · have K := K.1 c
        refine zw_aload_n 1 dX8_characteristic_58 rfl rfl rfl ?_
        refine zw_aload_n 1 dX8_characteristic_59 rfl rfl rfl ?_
        refine zw_iload_n 2 dX8_characteristic_60 rfl rfl rfl ?_
        obtain ⟨q14, ct, K⟩ := K
        refine zw_callV (n := 1) (As := [.int v1]) (rest := [.ref 56]) ct my_X8_held rfl rfl k_X8_128 i_X8_held s_X8_held zs_56 rfl dX8_characteristic_61 (by decide) (Nat.le_of_ble_eq_true rfl) (Nat.le_refl 0) (Nat.le_refl 0) rfl (fun r s1 h14 hq => ?_)
        obtain ⟨x14, rfl, rfl, hq⟩ := hq
        have K := K x14 h14 hq
        refine zw.st (st' := [.int x14, .ref 56]) rfl ?_
        refine zw_aload_n 1 dX8_characteristic_64 rfl rfl rfl ?_
        refine zw_iload_n 3 dX8_characteristic_65 rfl rfl rfl ?_
        obtain ⟨q15, ct, K⟩ := K
        refine zw_callV (n := 1) (As := [.int v2]) (rest := [.int x14, .ref 56]) ct my_X8_held rfl rfl k_X8_128 i_X8_held s_X8_held zs_56 rfl dX8_characteristic_66 (by decide) (Nat.le_of_ble_eq_true rfl) (Nat.le_refl 0) (Nat.le_refl 0) rfl (fun r s1 h15 hq => ?_)
        obtain ⟨x15, rfl, rfl, hq⟩ := hq
        have K := K x15 h15 hq
        refine zw.st (st' := [.int x15, .int x14, .ref 56]) rfl ?_
        obtain ⟨q16, ct, K⟩ := K
        refine zw_callV (n := 2) (As := [.int x14, .int x15]) (rest := []) ct my_X8_moebiuses rfl rfl k_X8_196 i_X8_moebiuses s_X8_moebiuses zs_56 rfl dX8_characteristic_69 (by decide) (Nat.le_of_ble_eq_true rfl) (Nat.le_refl 0) (Nat.le_refl 0) rfl (fun r s1 h16 hq => ?_)
        obtain ⟨rfl, rfl, hq⟩ := hq
        have K := K h16 hq
        refine zw.st (st' := []) rfl ?_
        refine zw_lconst (v := (0 : Int64)) dX8_characteristic_72 (by decide) rfl ?_
        refine zw_lstore dX8_characteristic_73 (by decide) rfl rfl ?_
        refine zw_iconst (v := (0 : Int32)) dX8_characteristic_75 (by decide) rfl ?_
        refine zw_istore dX8_characteristic_76 (by decide) rfl rfl ?_
        exact zw.sub [3, 4, 5, 6, 1, 0] rfl K
      · have K := K.2 c
        refine zw_ldc2 n_X8_194 dX8_characteristic_50 rfl ?_
        refine zw_iload 0 dX8_characteristic_53 rfl rfl ?_
        refine zw_i2l dX8_characteristic_55 rfl ?_
        refine zw_ladd dX8_characteristic_56 rfl ?_
        exact zw_lreturn dX8_characteristic_57 rfl (Nat.le_refl 0) (Nat.le_refl 0) ⟨_, rfl, rfl, K⟩
    · have K := K.2 c
      refine zw_aload_n 1 dX8_characteristic_24 rfl rfl rfl ?_
      refine zw_aload_n 1 dX8_characteristic_25 rfl rfl rfl ?_
      refine zw_iload_n 2 dX8_characteristic_26 rfl rfl rfl ?_
      obtain ⟨q17, ct, K⟩ := K
      refine zw_callV (n := 1) (As := [.int v1]) (rest := [.ref 56]) ct my_X8_held rfl rfl k_X8_128 i_X8_held s_X8_held zs_56 rfl dX8_characteristic_27 (by decide) (Nat.le_of_ble_eq_true rfl) (Nat.le_refl 0) (Nat.le_refl 0) rfl (fun r s1 h17 hq => ?_)
      obtain ⟨x17, rfl, rfl, hq⟩ := hq
      have K := K x17 h17 hq
      refine zw.st (st' := [.int x17, .ref 56]) rfl ?_
      obtain ⟨q18, ct, K⟩ := K
      refine zw_callV (n := 1) (As := [.int x17]) (rest := []) ct my_X8_isAdmitted rfl rfl k_X8_150 i_X8_isAdmitted s_X8_isAdmitted zs_56 rfl dX8_characteristic_30 (by decide) (Nat.le_of_ble_eq_true rfl) (Nat.le_refl 0) (Nat.le_refl 0) rfl (fun r s1 h18 hq => ?_)
      obtain ⟨x18, rfl, rfl, hq⟩ := hq
      have K := K x18 h18 hq
      refine zw.st (st' := [.int x18]) rfl ?_
      refine zw_if_ne (tg := 41) dX8_characteristic_33 (by decide) rfl (fun c => ?_) (fun c => ?_)
      · have K := K.1 c
        refine zw_iload 0 dX8_characteristic_41 rfl rfl ?_
        refine zw_istore dX8_characteristic_43 (by decide) rfl rfl ?_
        refine zw_iload 0 dX8_characteristic_45 rfl rfl ?_
        refine zw_if_eq (tg := 58) dX8_characteristic_47 (by decide) rfl (fun c => ?_) (fun c => ?_)
        · have K := K.1 c
          refine zw_aload_n 1 dX8_characteristic_58 rfl rfl rfl ?_
          refine zw_aload_n 1 dX8_characteristic_59 rfl rfl rfl ?_
          refine zw_iload_n 2 dX8_characteristic_60 rfl rfl rfl ?_
          obtain ⟨q19, ct, K⟩ := K
          refine zw_callV (n := 1) (As := [.int v1]) (rest := [.ref 56]) ct my_X8_held rfl rfl k_X8_128 i_X8_held s_X8_held zs_56 rfl dX8_characteristic_61 (by decide) (Nat.le_of_ble_eq_true rfl) (Nat.le_refl 0) (Nat.le_refl 0) rfl (fun r s1 h19 hq => ?_)
          obtain ⟨x19, rfl, rfl, hq⟩ := hq
          have K := K x19 h19 hq
          refine zw.st (st' := [.int x19, .ref 56]) rfl ?_
          refine zw_aload_n 1 dX8_characteristic_64 rfl rfl rfl ?_
          refine zw_iload_n 3 dX8_characteristic_65 rfl rfl rfl ?_
          obtain ⟨q20, ct, K⟩ := K
          refine zw_callV (n := 1) (As := [.int v2]) (rest := [.int x19, .ref 56]) ct my_X8_held rfl rfl k_X8_128 i_X8_held s_X8_held zs_56 rfl dX8_characteristic_66 (by decide) (Nat.le_of_ble_eq_true rfl) (Nat.le_refl 0) (Nat.le_refl 0) rfl (fun r s1 h20 hq => ?_)
          obtain ⟨x20, rfl, rfl, hq⟩ := hq
          have K := K x20 h20 hq
          refine zw.st (st' := [.int x20, .int x19, .ref 56]) rfl ?_
          obtain ⟨q21, ct, K⟩ := K
          refine zw_callV (n := 2) (As := [.int x19, .int x20]) (rest := []) ct my_X8_moebiuses rfl rfl k_X8_196 i_X8_moebiuses s_X8_moebiuses zs_56 rfl dX8_characteristic_69 (by decide) (Nat.le_of_ble_eq_true rfl) (Nat.le_refl 0) (Nat.le_refl 0) rfl (fun r s1 h21 hq => ?_)
          obtain ⟨rfl, rfl, hq⟩ := hq
          have K := K h21 hq
          refine zw.st (st' := []) rfl ?_
          refine zw_lconst (v := (0 : Int64)) dX8_characteristic_72 (by decide) rfl ?_
          refine zw_lstore dX8_characteristic_73 (by decide) rfl rfl ?_
          refine zw_iconst (v := (0 : Int32)) dX8_characteristic_75 (by decide) rfl ?_
          refine zw_istore dX8_characteristic_76 (by decide) rfl rfl ?_
          exact zw.sub [3, 4, 5, 6, 1, 0] rfl K
        · have K := K.2 c
          refine zw_ldc2 n_X8_194 dX8_characteristic_50 rfl ?_
          refine zw_iload 0 dX8_characteristic_53 rfl rfl ?_
          refine zw_i2l dX8_characteristic_55 rfl ?_
          refine zw_ladd dX8_characteristic_56 rfl ?_
          exact zw_lreturn dX8_characteristic_57 rfl (Nat.le_refl 0) (Nat.le_refl 0) ⟨_, rfl, rfl, K⟩
      · have K := K.2 c
        refine zw_bipush (v := (-3 : Int32)) dX8_characteristic_36 (by decide) rfl ?_
        refine zw_goto (np := 43) dX8_characteristic_38 (by decide) ?_
        refine zw_istore dX8_characteristic_43 (by decide) rfl rfl ?_
        refine zw_iload 0 dX8_characteristic_45 rfl rfl ?_
        refine zw_if_eq (tg := 58) dX8_characteristic_47 (by decide) rfl (fun c => ?_) (fun c => ?_)
        · have K := K.1 c
          refine zw_aload_n 1 dX8_characteristic_58 rfl rfl rfl ?_
          refine zw_aload_n 1 dX8_characteristic_59 rfl rfl rfl ?_
          refine zw_iload_n 2 dX8_characteristic_60 rfl rfl rfl ?_
          obtain ⟨q22, ct, K⟩ := K
          refine zw_callV (n := 1) (As := [.int v1]) (rest := [.ref 56]) ct my_X8_held rfl rfl k_X8_128 i_X8_held s_X8_held zs_56 rfl dX8_characteristic_61 (by decide) (Nat.le_of_ble_eq_true rfl) (Nat.le_refl 0) (Nat.le_refl 0) rfl (fun r s1 h22 hq => ?_)
          obtain ⟨x22, rfl, rfl, hq⟩ := hq
          have K := K x22 h22 hq
          refine zw.st (st' := [.int x22, .ref 56]) rfl ?_
          refine zw_aload_n 1 dX8_characteristic_64 rfl rfl rfl ?_
          refine zw_iload_n 3 dX8_characteristic_65 rfl rfl rfl ?_
          obtain ⟨q23, ct, K⟩ := K
          refine zw_callV (n := 1) (As := [.int v2]) (rest := [.int x22, .ref 56]) ct my_X8_held rfl rfl k_X8_128 i_X8_held s_X8_held zs_56 rfl dX8_characteristic_66 (by decide) (Nat.le_of_ble_eq_true rfl) (Nat.le_refl 0) (Nat.le_refl 0) rfl (fun r s1 h23 hq => ?_)
          obtain ⟨x23, rfl, rfl, hq⟩ := hq
          have K := K x23 h23 hq
          refine zw.st (st' := [.int x23, .int x22, .ref 56]) rfl ?_
          obtain ⟨q24, ct, K⟩ := K
          refine zw_callV (n := 2) (As := [.int x22, .int x23]) (rest := []) ct my_X8_moebiuses rfl rfl k_X8_196 i_X8_moebiuses s_X8_moebiuses zs_56 rfl dX8_characteristic_69 (by decide) (Nat.le_of_ble_eq_true rfl) (Nat.le_refl 0) (Nat.le_refl 0) rfl (fun r s1 h24 hq => ?_)
          obtain ⟨rfl, rfl, hq⟩ := hq
          have K := K h24 hq
          refine zw.st (st' := []) rfl ?_
          refine zw_lconst (v := (0 : Int64)) dX8_characteristic_72 (by decide) rfl ?_
          refine zw_lstore dX8_characteristic_73 (by decide) rfl rfl ?_
          refine zw_iconst (v := (0 : Int32)) dX8_characteristic_75 (by decide) rfl ?_
          refine zw_istore dX8_characteristic_76 (by decide) rfl rfl ?_
          exact zw.sub [3, 4, 5, 6, 1, 0] rfl K
        · have K := K.2 c
          refine zw_ldc2 n_X8_194 dX8_characteristic_50 rfl ?_
          refine zw_iload 0 dX8_characteristic_53 rfl rfl ?_
          refine zw_i2l dX8_characteristic_55 rfl ?_
          refine zw_ladd dX8_characteristic_56 rfl ?_
          exact zw_lreturn dX8_characteristic_57 rfl (Nat.le_refl 0) (Nat.le_refl 0) ⟨_, rfl, rfl, K⟩

set_option maxRecDepth 100000 in
set_option maxHeartbeats 4000000 in
theorem rX8_characteristic_78 {q : Int64 → zw_H → Prop} {h : zw_H} {v1 v2 v3 v7 : Int32} {w5 : Int64} (K : (((h.1 56 7) ≤ v7 → q w5 h) ∧ (¬ (h.1 56 7) ≤ v7 → (∃ q1 : Int32 → zw_H → Prop, zcI 0 mX8_held [.ref 56, .int v1] h q1 ∧ (∀ (x1 : Int32) (h1 : zw_H), q1 x1 h1 → (∃ q2 : Int32 → zw_H → Prop, zcI 0 mX8_held [.ref 56, .int v2] h1 q2 ∧ (∀ (x2 : Int32) (h2 : zw_H), q2 x2 h2 → (∃ q3 : Int32 → zw_H → Prop, zcI 2 mX8_isBetween [.ref 56, .int v7, .int x1, .int x2] h2 q3 ∧ (∀ (x3 : Int32) (h3 : zw_H), q3 x3 h3 → ((x3 = 0 → zwL 4 mX8_characteristic q 78 [(0, .ref 56), (1, .int v1), (2, .int v2), (3, .int v3), (5, .long (w5 + (0 : Int64))), (7, .int (v7 + (1 : Int32)))] [] h3) ∧ (¬ x3 = 0 → (∃ j4 : Nat, v7 = nI j4 ∧ j4 < 203 ∧ (∃ q5 : Int32 → zw_H → Prop, zcI 0 mX8_held [.ref 56, .int v2] h3 q5 ∧ (∀ (x5 : Int32) (h5 : zw_H), q5 x5 h5 → (∃ q6 : Int32 → zw_H → Prop, zcI 0 mX8_rank [.ref 56, .int x5] h5 q6 ∧ (∀ (x6 : Int32) (h6 : zw_H), q6 x6 h6 → (∃ q7 : Int32 → zw_H → Prop, zcI 0 mX8_rank [.ref 56, .int v7] h6 q7 ∧ (∀ (x7 : Int32) (h7 : zw_H), q7 x7 h7 → (∃ q8 : Int64 → zw_H → Prop, zcL 0 mX8_power [.int v3, .int (x6 - x7)] h7 q8 ∧ (∀ (x8 : Int64) (h8 : zw_H), q8 x8 h8 → zwL 4 mX8_characteristic q 78 [(0, .ref 56), (1, .int v1), (2, .int v2), (3, .int v3), (5, .long (w5 + ((h3.2 63 j4) * x8))), (7, .int (v7 + (1 : Int32)))] [] h8)))))))))))))))))))) : zwL 4 mX8_characteristic q 78 [(0, .ref 56), (1, .int v1), (2, .int v2), (3, .int v3), (5, .long w5), (7, .int v7)] [] h := by
  refine zw_iload 5 dX8_characteristic_78 rfl rfl ?_
  refine zw_aload_n 0 dX8_characteristic_80 rfl rfl rfl ?_
  refine zw_getI f_X8_52 dX8_characteristic_81 zs_56 rfl rfl ?_
  refine zw_icmp_ge (tg := 149) dX8_characteristic_84 (by decide) rfl (fun c => ?_) (fun c => ?_)
  · have K := K.1 c
    refine zw_lload 4 dX8_characteristic_149 rfl rfl ?_
    exact zw_lreturn dX8_characteristic_151 rfl (Nat.le_refl 0) (Nat.le_refl 0) ⟨_, rfl, rfl, K⟩
  · have K := K.2 c
    refine zw_lload 4 dX8_characteristic_87 rfl rfl ?_
    refine zw_aload_n 0 dX8_characteristic_89 rfl rfl rfl ?_
    refine zw_iload 5 dX8_characteristic_90 rfl rfl ?_
    refine zw_aload_n 0 dX8_characteristic_92 rfl rfl rfl ?_
    refine zw_iload_n 1 dX8_characteristic_93 rfl rfl rfl ?_
    obtain ⟨q1, ct, K⟩ := K
    refine zw_callV (n := 1) (As := [.int v1]) (rest := [.int v7, .ref 56, .long w5]) ct my_X8_held rfl rfl k_X8_128 i_X8_held s_X8_held zs_56 rfl dX8_characteristic_94 (by decide) (Nat.le_of_ble_eq_true rfl) (Nat.le_refl 0) (Nat.le_refl 0) rfl (fun r s1 h1 hq => ?_)
    obtain ⟨x1, rfl, rfl, hq⟩ := hq
    have K := K x1 h1 hq
    refine zw.st (st' := [.int x1, .int v7, .ref 56, .long w5]) rfl ?_
    refine zw_aload_n 0 dX8_characteristic_97 rfl rfl rfl ?_
    refine zw_iload_n 2 dX8_characteristic_98 rfl rfl rfl ?_
    obtain ⟨q2, ct, K⟩ := K
    refine zw_callV (n := 1) (As := [.int v2]) (rest := [.int x1, .int v7, .ref 56, .long w5]) ct my_X8_held rfl rfl k_X8_128 i_X8_held s_X8_held zs_56 rfl dX8_characteristic_99 (by decide) (Nat.le_of_ble_eq_true rfl) (Nat.le_refl 0) (Nat.le_refl 0) rfl (fun r s1 h2 hq => ?_)
    obtain ⟨x2, rfl, rfl, hq⟩ := hq
    have K := K x2 h2 hq
    refine zw.st (st' := [.int x2, .int x1, .int v7, .ref 56, .long w5]) rfl ?_
    obtain ⟨q3, ct, K⟩ := K
    refine zw_callV (n := 3) (As := [.int v7, .int x1, .int x2]) (rest := [.long w5]) ct my_X8_isBetween rfl rfl k_X8_185 i_X8_isBetween s_X8_isBetween zs_56 rfl dX8_characteristic_102 (by decide) (Nat.le_of_ble_eq_true rfl) (Nat.le_refl 0) (Nat.le_refl 0) rfl (fun r s1 h3 hq => ?_)
    obtain ⟨x3, rfl, rfl, hq⟩ := hq
    have K := K x3 h3 hq
    refine zw.st (st' := [.int x3, .long w5]) rfl ?_
    refine zw_if_eq (tg := 139) dX8_characteristic_105 (by decide) rfl (fun c => ?_) (fun c => ?_)
    · have K := K.1 c
      refine zw_lconst (v := (0 : Int64)) dX8_characteristic_139 (by decide) rfl ?_
      refine zw_ladd dX8_characteristic_140 rfl ?_
      refine zw_lstore dX8_characteristic_141 (by decide) rfl rfl ?_
      refine zw_iinc (v := (v7 + (1 : Int32))) 5 dX8_characteristic_143 rfl rfl (by decide) rfl rfl ?_
      refine zw_goto (np := 78) dX8_characteristic_146 (by decide) ?_
      exact zw.sub [2, 3, 4, 5, 1, 0] rfl K
    · have K := K.2 c
      refine zw_aload_n 0 dX8_characteristic_108 rfl rfl rfl ?_
      refine zw_getR f_X8_28 dX8_characteristic_109 zs_56 rfl rfl ?_
      refine zw_iload 5 dX8_characteristic_112 rfl rfl ?_
      obtain ⟨j4, hj4, hn4, K⟩ := K
      refine zw_lald j4 dX8_characteristic_114 zs_63 ⟨hj4, hn4⟩ (by decide) rfl ?_
      refine zw_iload_n 3 dX8_characteristic_115 rfl rfl rfl ?_
      refine zw_aload_n 0 dX8_characteristic_116 rfl rfl rfl ?_
      refine zw_aload_n 0 dX8_characteristic_117 rfl rfl rfl ?_
      refine zw_iload_n 2 dX8_characteristic_118 rfl rfl rfl ?_
      obtain ⟨q5, ct, K⟩ := K
      refine zw_callV (n := 1) (As := [.int v2]) (rest := [.ref 56, .int v3, .long (h3.2 63 j4), .long w5]) ct my_X8_held rfl rfl k_X8_128 i_X8_held s_X8_held zs_56 rfl dX8_characteristic_119 (by decide) (Nat.le_of_ble_eq_true rfl) (Nat.le_refl 0) (Nat.le_refl 0) rfl (fun r s1 h5 hq => ?_)
      obtain ⟨x5, rfl, rfl, hq⟩ := hq
      have K := K x5 h5 hq
      refine zw.st (st' := [.int x5, .ref 56, .int v3, .long (h3.2 63 j4), .long w5]) rfl ?_
      obtain ⟨q6, ct, K⟩ := K
      refine zw_callV (n := 1) (As := [.int x5]) (rest := [.int v3, .long (h3.2 63 j4), .long w5]) ct my_X8_rank rfl rfl k_X8_188 i_X8_rank s_X8_rank zs_56 rfl dX8_characteristic_122 (by decide) (Nat.le_of_ble_eq_true rfl) (Nat.le_refl 0) (Nat.le_refl 0) rfl (fun r s1 h6 hq => ?_)
      obtain ⟨x6, rfl, rfl, hq⟩ := hq
      have K := K x6 h6 hq
      refine zw.st (st' := [.int x6, .int v3, .long (h3.2 63 j4), .long w5]) rfl ?_
      refine zw_aload_n 0 dX8_characteristic_125 rfl rfl rfl ?_
      refine zw_iload 5 dX8_characteristic_126 rfl rfl ?_
      obtain ⟨q7, ct, K⟩ := K
      refine zw_callV (n := 1) (As := [.int v7]) (rest := [.int x6, .int v3, .long (h3.2 63 j4), .long w5]) ct my_X8_rank rfl rfl k_X8_188 i_X8_rank s_X8_rank zs_56 rfl dX8_characteristic_128 (by decide) (Nat.le_of_ble_eq_true rfl) (Nat.le_refl 0) (Nat.le_refl 0) rfl (fun r s1 h7 hq => ?_)
      obtain ⟨x7, rfl, rfl, hq⟩ := hq
      have K := K x7 h7 hq
      refine zw.st (st' := [.int x7, .int x6, .int v3, .long (h3.2 63 j4), .long w5]) rfl ?_
      refine zw_isub dX8_characteristic_131 rfl ?_
      obtain ⟨q8, ct, K⟩ := K
      refine zw_callS (n := 2) (As := [.int v3, .int (x6 - x7)]) (rest := [.long (h3.2 63 j4), .long w5]) ct my_X8_power rfl rfl k_X8_210 t_X8_power dX8_characteristic_132 (by decide) (Nat.le_of_ble_eq_true rfl) (Nat.le_refl 0) (Nat.le_refl 0) rfl (fun r s1 h8 hq => ?_)
      obtain ⟨x8, rfl, rfl, hq⟩ := hq
      have K := K x8 h8 hq
      refine zw.st (st' := [.long x8, .long (h3.2 63 j4), .long w5]) rfl ?_
      refine zw_lmul dX8_characteristic_135 rfl ?_
      refine zw_goto (np := 140) dX8_characteristic_136 (by decide) ?_
      refine zw_ladd dX8_characteristic_140 rfl ?_
      refine zw_lstore dX8_characteristic_141 (by decide) rfl rfl ?_
      refine zw_iinc (v := (v7 + (1 : Int32))) 5 dX8_characteristic_143 rfl rfl (by decide) rfl rfl ?_
      refine zw_goto (np := 78) dX8_characteristic_146 (by decide) ?_
      exact zw.sub [2, 3, 4, 5, 1, 0] rfl K

set_option maxRecDepth 100000 in
set_option maxHeartbeats 4000000 in
theorem rX8_common_0 {q : Int32 → zw_H → Prop} {h : zw_H} {v1 v2 v3 v4 : Int32} (K : zwI 1 mX8_common q 6 [(0, .ref 56), (1, .int v1), (2, .int v2), (3, .int v3), (4, .int v4), (5, .int (0 : Int32)), (6, .int (0 : Int32))] [] h) : zwI 1 mX8_common q 0 [(0, .ref 56), (1, .int v1), (2, .int v2), (3, .int v3), (4, .int v4)] [] h := by
  refine zw_iconst (v := (0 : Int32)) dX8_common_0 (by decide) rfl ?_
  refine zw_istore dX8_common_1 (by decide) rfl rfl ?_
  refine zw_iconst (v := (0 : Int32)) dX8_common_3 (by decide) rfl ?_
  refine zw_istore dX8_common_4 (by decide) rfl rfl ?_
  exact zw.sub [2, 3, 4, 5, 6, 1, 0] rfl K

set_option maxRecDepth 100000 in
set_option maxHeartbeats 4000000 in
theorem rX8_common_6 {q : Int32 → zw_H → Prop} {h : zw_H} {v1 v2 v3 v4 v5 v6 : Int32} (K : (((h.1 57 0) ≤ v6 → q v5 h) ∧ (¬ (h.1 57 0) ≤ v6 → (∃ q1 : Int32 → zw_H → Prop, zcI 0 mX8_at [.ref 56, .int v1, .int v6] h q1 ∧ (∀ (x1 : Int32) (h1 : zw_H), q1 x1 h1 → ((¬ x1 = v2 → zwI 1 mX8_common q 6 [(0, .ref 56), (1, .int v1), (2, .int v2), (3, .int v3), (4, .int v4), (5, .int (v5 + (0 : Int32))), (6, .int (v6 + (1 : Int32)))] [] h1) ∧ (x1 = v2 → (∃ q2 : Int32 → zw_H → Prop, zcI 0 mX8_at [.ref 56, .int v3, .int v6] h1 q2 ∧ (∀ (x2 : Int32) (h2 : zw_H), q2 x2 h2 → ((¬ x2 = v4 → zwI 1 mX8_common q 6 [(0, .ref 56), (1, .int v1), (2, .int v2), (3, .int v3), (4, .int v4), (5, .int (v5 + (0 : Int32))), (6, .int (v6 + (1 : Int32)))] [] h2) ∧ (x2 = v4 → zwI 1 mX8_common q 6 [(0, .ref 56), (1, .int v1), (2, .int v2), (3, .int v3), (4, .int v4), (5, .int (v5 + (1 : Int32))), (6, .int (v6 + (1 : Int32)))] [] h2))))))))))) : zwI 1 mX8_common q 6 [(0, .ref 56), (1, .int v1), (2, .int v2), (3, .int v3), (4, .int v4), (5, .int v5), (6, .int v6)] [] h := by
  refine zw_iload 6 dX8_common_6 rfl rfl ?_
  refine zw_aload_n 0 dX8_common_8 rfl rfl rfl ?_
  refine zw_getR f_X8_7 dX8_common_9 zs_56 rfl rfl ?_
  refine zw_iconst (v := (0 : Int32)) dX8_common_12 (by decide) rfl ?_
  refine zw_iald 0 dX8_common_13 zs_57 ⟨by decide, by decide⟩ (by decide) rfl ?_
  refine zw_icmp_ge (tg := 56) dX8_common_14 (by decide) rfl (fun c => ?_) (fun c => ?_)
  · have K := K.1 c
    refine zw_iload 5 dX8_common_56 rfl rfl ?_
    exact zw_ireturn (ty := .int) dX8_common_58 rfl rfl (Nat.le_refl 0) (Nat.le_refl 0) ⟨_, rfl, rfl, K⟩
  · have K := K.2 c
    refine zw_iload 5 dX8_common_17 rfl rfl ?_
    refine zw_aload_n 0 dX8_common_19 rfl rfl rfl ?_
    refine zw_iload_n 1 dX8_common_20 rfl rfl rfl ?_
    refine zw_iload 6 dX8_common_21 rfl rfl ?_
    obtain ⟨q1, ct, K⟩ := K
    refine zw_callV (n := 2) (As := [.int v1, .int v6]) (rest := [.int v5]) ct my_X8_at rfl rfl k_X8_65 i_X8_at s_X8_at zs_56 rfl dX8_common_23 (by decide) (Nat.le_of_ble_eq_true rfl) (Nat.le_refl 0) (Nat.le_refl 0) rfl (fun r s1 h1 hq => ?_)
    obtain ⟨x1, rfl, rfl, hq⟩ := hq
    have K := K x1 h1 hq
    refine zw.st (st' := [.int x1, .int v5]) rfl ?_
    refine zw_iload_n 2 dX8_common_26 rfl rfl rfl ?_
    refine zw_icmp_ne (tg := 46) dX8_common_27 (by decide) rfl (fun c => ?_) (fun c => ?_)
    · have K := K.1 c
      refine zw_iconst (v := (0 : Int32)) dX8_common_46 (by decide) rfl ?_
      refine zw_iadd dX8_common_47 rfl ?_
      refine zw_istore dX8_common_48 (by decide) rfl rfl ?_
      refine zw_iinc (v := (v6 + (1 : Int32))) 6 dX8_common_50 rfl rfl (by decide) rfl rfl ?_
      refine zw_goto (np := 6) dX8_common_53 (by decide) ?_
      exact zw.sub [2, 3, 4, 5, 6, 1, 0] rfl K
    · have K := K.2 c
      refine zw_aload_n 0 dX8_common_30 rfl rfl rfl ?_
      refine zw_iload_n 3 dX8_common_31 rfl rfl rfl ?_
      refine zw_iload 6 dX8_common_32 rfl rfl ?_
      obtain ⟨q2, ct, K⟩ := K
      refine zw_callV (n := 2) (As := [.int v3, .int v6]) (rest := [.int v5]) ct my_X8_at rfl rfl k_X8_65 i_X8_at s_X8_at zs_56 rfl dX8_common_34 (by decide) (Nat.le_of_ble_eq_true rfl) (Nat.le_refl 0) (Nat.le_refl 0) rfl (fun r s1 h2 hq => ?_)
      obtain ⟨x2, rfl, rfl, hq⟩ := hq
      have K := K x2 h2 hq
      refine zw.st (st' := [.int x2, .int v5]) rfl ?_
      refine zw_iload 4 dX8_common_37 rfl rfl ?_
      refine zw_icmp_ne (tg := 46) dX8_common_39 (by decide) rfl (fun c => ?_) (fun c => ?_)
      · have K := K.1 c
        refine zw_iconst (v := (0 : Int32)) dX8_common_46 (by decide) rfl ?_
        refine zw_iadd dX8_common_47 rfl ?_
        refine zw_istore dX8_common_48 (by decide) rfl rfl ?_
        refine zw_iinc (v := (v6 + (1 : Int32))) 6 dX8_common_50 rfl rfl (by decide) rfl rfl ?_
        refine zw_goto (np := 6) dX8_common_53 (by decide) ?_
        exact zw.sub [2, 3, 4, 5, 6, 1, 0] rfl K
      · have K := K.2 c
        refine zw_iconst (v := (1 : Int32)) dX8_common_42 (by decide) rfl ?_
        refine zw_goto (np := 47) dX8_common_43 (by decide) ?_
        refine zw_iadd dX8_common_47 rfl ?_
        refine zw_istore dX8_common_48 (by decide) rfl rfl ?_
        refine zw_iinc (v := (v6 + (1 : Int32))) 6 dX8_common_50 rfl rfl (by decide) rfl rfl ?_
        refine zw_goto (np := 6) dX8_common_53 (by decide) ?_
        exact zw.sub [2, 3, 4, 5, 6, 1, 0] rfl K

set_option maxRecDepth 100000 in
set_option maxHeartbeats 4000000 in
theorem rX8_most_0 {q : Int32 → zw_H → Prop} {h : zw_H} {v1 v2 : Int32} (K : (∃ j1 : Nat, v2 = nI j1 ∧ j1 < 203 ∧ zwI 2 mX8_most q 12 [(0, .ref 56), (1, .int v1), (2, .int v2), (3, .int ((1 : Int32) <<< ((h.1 60 j1) &&& 31))), (4, .int (0 : Int32))] [] h)) : zwI 2 mX8_most q 0 [(0, .ref 56), (1, .int v1), (2, .int v2)] [] h := by
  refine zw_iconst (v := (1 : Int32)) dX8_most_0 (by decide) rfl ?_
  refine zw_aload_n 0 dX8_most_1 rfl rfl rfl ?_
  refine zw_getR f_X8_19 dX8_most_2 zs_56 rfl rfl ?_
  refine zw_iload_n 2 dX8_most_5 rfl rfl rfl ?_
  obtain ⟨j1, hj1, hn1, K⟩ := K
  refine zw_iald j1 dX8_most_6 zs_60 ⟨hj1, hn1⟩ (by decide) rfl ?_
  refine zw_ishl dX8_most_7 rfl ?_
  refine zw_istore_n dX8_most_8 rfl (by decide) rfl rfl ?_
  refine zw_iconst (v := (0 : Int32)) dX8_most_9 (by decide) rfl ?_
  refine zw_istore dX8_most_10 (by decide) rfl rfl ?_
  exact zw.sub [2, 3, 4, 1, 0] rfl K

set_option maxRecDepth 100000 in
set_option maxHeartbeats 4000000 in
theorem rX8_most_12 {q : Int32 → zw_H → Prop} {h : zw_H} {v1 v2 v3 v4 : Int32} (K : ((v3 ≤ v4 → zwI 2 mX8_most q 35 [(0, .ref 56), (1, .int v1), (2, .int v2), (3, .int v3), (4, .int (0 : Int32))] [] h) ∧ (¬ v3 ≤ v4 → (∃ j1 : Nat, v4 = nI j1 ∧ j1 < 64 ∧ ∀ h2 : zw_H, h2 = zw_sI h 65 j1 (0 : Int32) → zwI 2 mX8_most q 12 [(0, .ref 56), (1, .int v1), (2, .int v2), (3, .int v3), (4, .int (v4 + (1 : Int32)))] [] h2)))) : zwI 2 mX8_most q 12 [(0, .ref 56), (1, .int v1), (2, .int v2), (3, .int v3), (4, .int v4)] [] h := by
  refine zw_iload 4 dX8_most_12 rfl rfl ?_
  refine zw_iload_n 3 dX8_most_14 rfl rfl rfl ?_
  refine zw_icmp_ge (tg := 32) dX8_most_15 (by decide) rfl (fun c => ?_) (fun c => ?_)
  · have K := K.1 c
    refine zw_iconst (v := (0 : Int32)) dX8_most_32 (by decide) rfl ?_
    refine zw_istore dX8_most_33 (by decide) rfl rfl ?_
    exact zw.sub [1, 2, 3, 4, 0] rfl K
  · have K := K.2 c
    refine zw_aload_n 0 dX8_most_18 rfl rfl rfl ?_
    refine zw_getR f_X8_35 dX8_most_19 zs_56 rfl rfl ?_
    refine zw_iload 4 dX8_most_22 rfl rfl ?_
    refine zw_iconst (v := (0 : Int32)) dX8_most_24 (by decide) rfl ?_
    obtain ⟨j1, hj1, hn1, K⟩ := K
    refine zw_iast j1 dX8_most_25 zs_65 ⟨hj1, hn1⟩ (by decide) rfl ?_
    generalize e2 : zw_sI h 65 j1 (0 : Int32) = h2
    have K := K h2 e2.symm
    refine zw_iinc (v := (v4 + (1 : Int32))) 4 dX8_most_26 rfl rfl (by decide) rfl rfl ?_
    refine zw_goto (np := 12) dX8_most_29 (by decide) ?_
    exact zw.sub [1, 2, 3, 4, 0] rfl K

set_option maxRecDepth 100000 in
set_option maxHeartbeats 4000000 in
theorem rX8_most_35 {q : Int32 → zw_H → Prop} {h : zw_H} {v1 v2 v3 v4 : Int32} (K : (∃ j1 : Nat, v1 = nI j1 ∧ j1 < 203 ∧ (((h.1 60 j1) ≤ v4 → (∃ j2 : Nat, (v3 - (1 : Int32)) = nI j2 ∧ j2 < 64 ∧ q (h.1 65 j2) h)) ∧ (¬ (h.1 60 j1) ≤ v4 → zwI 2 mX8_most q 51 [(0, .ref 56), (1, .int v1), (2, .int v2), (3, .int v3), (4, .int v4), (5, .int (v3 - (1 : Int32)))] [] h)))) : zwI 2 mX8_most q 35 [(0, .ref 56), (1, .int v1), (2, .int v2), (3, .int v3), (4, .int v4)] [] h := by
  refine zw_iload 4 dX8_most_35 rfl rfl ?_
  refine zw_aload_n 0 dX8_most_37 rfl rfl rfl ?_
  refine zw_getR f_X8_19 dX8_most_38 zs_56 rfl rfl ?_
  refine zw_iload_n 1 dX8_most_41 rfl rfl rfl ?_
  obtain ⟨j1, hj1, hn1, K⟩ := K
  refine zw_iald j1 dX8_most_42 zs_60 ⟨hj1, hn1⟩ (by decide) rfl ?_
  refine zw_icmp_ge (tg := 157) dX8_most_43 (by decide) rfl (fun c => ?_) (fun c => ?_)
  · have K := K.1 c
    refine zw_aload_n 0 dX8_most_157 rfl rfl rfl ?_
    refine zw_getR f_X8_35 dX8_most_158 zs_56 rfl rfl ?_
    refine zw_iload_n 3 dX8_most_161 rfl rfl rfl ?_
    refine zw_iconst (v := (1 : Int32)) dX8_most_162 (by decide) rfl ?_
    refine zw_isub dX8_most_163 rfl ?_
    obtain ⟨j2, hj2, hn2, K⟩ := K
    refine zw_iald j2 dX8_most_164 zs_65 ⟨hj2, hn2⟩ (by decide) rfl ?_
    exact zw_ireturn (ty := .int) dX8_most_165 rfl rfl (Nat.le_refl 0) (Nat.le_refl 0) ⟨_, rfl, rfl, K⟩
  · have K := K.2 c
    refine zw_iload_n 3 dX8_most_46 rfl rfl rfl ?_
    refine zw_iconst (v := (1 : Int32)) dX8_most_47 (by decide) rfl ?_
    refine zw_isub dX8_most_48 rfl ?_
    refine zw_istore dX8_most_49 (by decide) rfl rfl ?_
    exact zw.sub [1, 2, 3, 4, 5, 0] rfl K

set_option maxRecDepth 100000 in
set_option maxHeartbeats 4000000 in
theorem rX8_most_51 {q : Int32 → zw_H → Prop} {h : zw_H} {v1 v2 v3 v4 v5 : Int32} (K : ((v5 ≤ 0 → zwI 2 mX8_most q 35 [(0, .ref 56), (1, .int v1), (2, .int v2), (3, .int v3), (4, .int (v4 + (1 : Int32)))] [] h) ∧ (¬ v5 ≤ 0 → zwI 2 mX8_most q 59 [(0, .ref 56), (1, .int v1), (2, .int v2), (3, .int v3), (4, .int v4), (5, .int v5), (6, .int (0 : Int32))] [] h))) : zwI 2 mX8_most q 51 [(0, .ref 56), (1, .int v1), (2, .int v2), (3, .int v3), (4, .int v4), (5, .int v5)] [] h := by
  refine zw_iload 5 dX8_most_51 rfl rfl ?_
  refine zw_if_le (tg := 151) dX8_most_53 (by decide) rfl (fun c => ?_) (fun c => ?_)
  · have K := K.1 c
    refine zw_iinc (v := (v4 + (1 : Int32))) 4 dX8_most_151 rfl rfl (by decide) rfl rfl ?_
    refine zw_goto (np := 35) dX8_most_154 (by decide) ?_
    exact zw.sub [1, 2, 3, 4, 0] rfl K
  · have K := K.2 c
    refine zw_iconst (v := (0 : Int32)) dX8_most_56 (by decide) rfl ?_
    refine zw_istore dX8_most_57 (by decide) rfl rfl ?_
    exact zw.sub [1, 2, 3, 4, 5, 6, 0] rfl K

set_option maxRecDepth 100000 in
set_option maxHeartbeats 4000000 in
theorem rX8_most_59 {q : Int32 → zw_H → Prop} {h : zw_H} {v1 v2 v3 v4 v5 v6 : Int32} (K : (∃ j1 : Nat, v2 = nI j1 ∧ j1 < 203 ∧ (((h.1 60 j1) ≤ v6 → zwI 2 mX8_most q 51 [(0, .ref 56), (1, .int v1), (2, .int v2), (3, .int v3), (4, .int v4), (5, .int (v5 + (-1 : Int32)))] [] h) ∧ (¬ (h.1 60 j1) ≤ v6 → ((¬ ((v5 >>> (v6 &&& 31)) &&& (1 : Int32)) = (1 : Int32) → zwI 2 mX8_most q 59 [(0, .ref 56), (1, .int v1), (2, .int v2), (3, .int v3), (4, .int v4), (5, .int v5), (6, .int (v6 + (1 : Int32)))] [] h) ∧ (((v5 >>> (v6 &&& 31)) &&& (1 : Int32)) = (1 : Int32) → (∃ j2 : Nat, (v5 &&& (((1 : Int32) <<< (v6 &&& 31)) ^^^ (-1 : Int32))) = nI j2 ∧ j2 < 64 ∧ (∃ q3 : Int32 → zw_H → Prop, zcI 1 mX8_common [.ref 56, .int v1, .int v4, .int v2, .int v6] h q3 ∧ (∀ (x3 : Int32) (h3 : zw_H), q3 x3 h3 → (∃ j4 : Nat, v5 = nI j4 ∧ j4 < 64 ∧ ((((h.1 65 j2) + x3) ≤ (h3.1 65 j4) → (∃ j5 : Nat, v5 = nI j5 ∧ j5 < 64 ∧ (∃ j6 : Nat, v5 = nI j6 ∧ j6 < 64 ∧ ∀ h7 : zw_H, h7 = zw_sI h3 65 j6 (h3.1 65 j5) → zwI 2 mX8_most q 59 [(0, .ref 56), (1, .int v1), (2, .int v2), (3, .int v3), (4, .int v4), (5, .int v5), (6, .int (v6 + (1 : Int32)))] [] h7))) ∧ (¬ ((h.1 65 j2) + x3) ≤ (h3.1 65 j4) → (∃ j8 : Nat, v5 = nI j8 ∧ j8 < 64 ∧ ∀ h9 : zw_H, h9 = zw_sI h3 65 j8 ((h.1 65 j2) + x3) → zwI 2 mX8_most q 59 [(0, .ref 56), (1, .int v1), (2, .int v2), (3, .int v3), (4, .int v4), (5, .int v5), (6, .int (v6 + (1 : Int32)))] [] h9))))))))))))) : zwI 2 mX8_most q 59 [(0, .ref 56), (1, .int v1), (2, .int v2), (3, .int v3), (4, .int v4), (5, .int v5), (6, .int v6)] [] h := by
  refine zw_iload 6 dX8_most_59 rfl rfl ?_
  refine zw_aload_n 0 dX8_most_61 rfl rfl rfl ?_
  refine zw_getR f_X8_19 dX8_most_62 zs_56 rfl rfl ?_
  refine zw_iload_n 2 dX8_most_65 rfl rfl rfl ?_
  obtain ⟨j1, hj1, hn1, K⟩ := K
  refine zw_iald j1 dX8_most_66 zs_60 ⟨hj1, hn1⟩ (by decide) rfl ?_
  refine zw_icmp_ge (tg := 145) dX8_most_67 (by decide) rfl (fun c => ?_) (fun c => ?_)
  · have K := K.1 c
    refine zw_iinc (v := (v5 + (-1 : Int32))) 5 dX8_most_145 rfl rfl (by decide) rfl rfl ?_
    refine zw_goto (np := 51) dX8_most_148 (by decide) ?_
    exact zw.sub [1, 2, 3, 4, 5, 0] rfl K
  · have K := K.2 c
    refine zw_iload 5 dX8_most_70 rfl rfl ?_
    refine zw_iload 6 dX8_most_72 rfl rfl ?_
    refine zw_ishr dX8_most_74 rfl ?_
    refine zw_iconst (v := (1 : Int32)) dX8_most_75 (by decide) rfl ?_
    refine zw_iand dX8_most_76 rfl ?_
    refine zw_iconst (v := (1 : Int32)) dX8_most_77 (by decide) rfl ?_
    refine zw_icmp_ne (tg := 139) dX8_most_78 (by decide) rfl (fun c => ?_) (fun c => ?_)
    · have K := K.1 c
      refine zw_iinc (v := (v6 + (1 : Int32))) 6 dX8_most_139 rfl rfl (by decide) rfl rfl ?_
      refine zw_goto (np := 59) dX8_most_142 (by decide) ?_
      exact zw.sub [1, 2, 3, 4, 5, 6, 0] rfl K
    · have K := K.2 c
      refine zw_aload_n 0 dX8_most_81 rfl rfl rfl ?_
      refine zw_getR f_X8_35 dX8_most_82 zs_56 rfl rfl ?_
      refine zw_iload 5 dX8_most_85 rfl rfl ?_
      refine zw_iconst (v := (1 : Int32)) dX8_most_87 (by decide) rfl ?_
      refine zw_iload 6 dX8_most_88 rfl rfl ?_
      refine zw_ishl dX8_most_90 rfl ?_
      refine zw_iconst (v := (-1 : Int32)) dX8_most_91 (by decide) rfl ?_
      refine zw_ixor dX8_most_92 rfl ?_
      refine zw_iand dX8_most_93 rfl ?_
      obtain ⟨j2, hj2, hn2, K⟩ := K
      refine zw_iald j2 dX8_most_94 zs_65 ⟨hj2, hn2⟩ (by decide) rfl ?_
      refine zw_aload_n 0 dX8_most_95 rfl rfl rfl ?_
      refine zw_iload_n 1 dX8_most_96 rfl rfl rfl ?_
      refine zw_iload 4 dX8_most_97 rfl rfl ?_
      refine zw_iload_n 2 dX8_most_99 rfl rfl rfl ?_
      refine zw_iload 6 dX8_most_100 rfl rfl ?_
      obtain ⟨q3, ct, K⟩ := K
      refine zw_callV (n := 4) (As := [.int v1, .int v4, .int v2, .int v6]) (rest := [.int (h.1 65 j2)]) ct my_X8_common rfl rfl k_X8_214 i_X8_common s_X8_common zs_56 rfl dX8_most_102 (by decide) (Nat.le_of_ble_eq_true rfl) (Nat.le_refl 0) (Nat.le_refl 0) rfl (fun r s1 h3 hq => ?_)
      obtain ⟨x3, rfl, rfl, hq⟩ := hq
      have K := K x3 h3 hq
      refine zw.st (st' := [.int x3, .int (h.1 65 j2)]) rfl ?_
      refine zw_iadd dX8_most_105 rfl ?_
      refine zw_istore dX8_most_106 (by decide) rfl rfl ?_
      refine zw_aload_n 1 dX8_most_108 rfl rfl rfl ?_
      refine zw_getR f_X8_35 dX8_most_109 zs_56 rfl rfl ?_
      refine zw_iload 6 dX8_most_112 rfl rfl ?_
      refine zw_iload 0 dX8_most_114 rfl rfl ?_
      refine zw_aload_n 1 dX8_most_116 rfl rfl rfl ?_
      refine zw_getR f_X8_35 dX8_most_117 zs_56 rfl rfl ?_
      refine zw_iload 6 dX8_most_120 rfl rfl ?_
      obtain ⟨j4, hj4, hn4, K⟩ := K
      refine zw_iald j4 dX8_most_122 zs_65 ⟨hj4, hn4⟩ (by decide) rfl ?_
      refine zw_icmp_le (tg := 131) dX8_most_123 (by decide) rfl (fun c => ?_) (fun c => ?_)
      · have K := K.1 c
        refine zw_aload_n 1 dX8_most_131 rfl rfl rfl ?_
        refine zw_getR f_X8_35 dX8_most_132 zs_56 rfl rfl ?_
        refine zw_iload 6 dX8_most_135 rfl rfl ?_
        obtain ⟨j5, hj5, hn5, K⟩ := K
        refine zw_iald j5 dX8_most_137 zs_65 ⟨hj5, hn5⟩ (by decide) rfl ?_
        obtain ⟨j6, hj6, hn6, K⟩ := K
        refine zw_iast j6 dX8_most_138 zs_65 ⟨hj6, hn6⟩ (by decide) rfl ?_
        generalize e7 : zw_sI h3 65 j6 (h3.1 65 j5) = h7
        have K := K h7 e7.symm
        refine zw_iinc (v := (v6 + (1 : Int32))) 7 dX8_most_139 rfl rfl (by decide) rfl rfl ?_
        refine zw_goto (np := 59) dX8_most_142 (by decide) ?_
        exact zw.sub [2, 3, 4, 5, 6, 7, 0] rfl K
      · have K := K.2 c
        refine zw_iload 0 dX8_most_126 rfl rfl ?_
        refine zw_goto (np := 138) dX8_most_128 (by decide) ?_
        obtain ⟨j8, hj8, hn8, K⟩ := K
        refine zw_iast j8 dX8_most_138 zs_65 ⟨hj8, hn8⟩ (by decide) rfl ?_
        generalize e9 : zw_sI h3 65 j8 ((h.1 65 j2) + x3) = h9
        have K := K h9 e9.symm
        refine zw_iinc (v := (v6 + (1 : Int32))) 7 dX8_most_139 rfl rfl (by decide) rfl rfl ?_
        refine zw_goto (np := 59) dX8_most_142 (by decide) ?_
        exact zw.sub [2, 3, 4, 5, 6, 7, 0] rfl K

set_option maxRecDepth 100000 in
set_option maxHeartbeats 4000000 in
theorem rX8_transfers_0 {q : Int32 → zw_H → Prop} {h : zw_H} {v1 v2 : Int32} (K : (∃ q1 : Int32 → zw_H → Prop, zcI 2 mX8_wrongOf [.ref 56, .int v1, .int v2] h q1 ∧ (∀ (x1 : Int32) (h1 : zw_H), q1 x1 h1 → ((x1 = 0 → (∃ q2 : Int32 → zw_H → Prop, zcI 0 mX8_held [.ref 56, .int v1] h1 q2 ∧ (∀ (x2 : Int32) (h2 : zw_H), q2 x2 h2 → (∃ q3 : Int32 → zw_H → Prop, zcI 0 mX8_held [.ref 56, .int v2] h2 q3 ∧ (∀ (x3 : Int32) (h3 : zw_H), q3 x3 h3 → (∃ q4 : Int32 → zw_H → Prop, zcI 2 mX8_most [.ref 56, .int x2, .int x3] h3 q4 ∧ (∀ (x4 : Int32) (h4 : zw_H), q4 x4 h4 → q ((h1.1 57 0) - x4) h4))))))) ∧ (¬ x1 = 0 → q x1 h1))))) : zwI 3 mX8_transfers q 0 [(0, .ref 56), (1, .int v1), (2, .int v2)] [] h := by
  refine zw_aload_n 0 dX8_transfers_0 rfl rfl rfl ?_
  refine zw_iload_n 1 dX8_transfers_1 rfl rfl rfl ?_
  refine zw_iload_n 2 dX8_transfers_2 rfl rfl rfl ?_
  obtain ⟨q1, ct, K⟩ := K
  refine zw_callV (n := 2) (As := [.int v1, .int v2]) (rest := []) ct my_X8_wrongOf rfl rfl k_X8_134 i_X8_wrongOf s_X8_wrongOf zs_56 rfl dX8_transfers_3 (by decide) (Nat.le_of_ble_eq_true rfl) (Nat.le_refl 0) (Nat.le_refl 0) rfl (fun r s1 h1 hq => ?_)
  obtain ⟨x1, rfl, rfl, hq⟩ := hq
  have K := K x1 h1 hq
  refine zw.st (st' := [.int x1]) rfl ?_
  refine zw_istore_n dX8_transfers_6 rfl (by decide) rfl rfl ?_
  refine zw_iload_n 0 dX8_transfers_7 rfl rfl rfl ?_
  refine zw_if_eq (tg := 15) dX8_transfers_8 (by decide) rfl (fun c => ?_) (fun c => ?_)
  · have K := K.1 c
    refine zw_aload_n 1 dX8_transfers_15 rfl rfl rfl ?_
    refine zw_getR f_X8_7 dX8_transfers_16 zs_56 rfl rfl ?_
    refine zw_iconst (v := (0 : Int32)) dX8_transfers_19 (by decide) rfl ?_
    refine zw_iald 0 dX8_transfers_20 zs_57 ⟨by decide, by decide⟩ (by decide) rfl ?_
    refine zw_aload_n 1 dX8_transfers_21 rfl rfl rfl ?_
    refine zw_aload_n 1 dX8_transfers_22 rfl rfl rfl ?_
    refine zw_iload_n 2 dX8_transfers_23 rfl rfl rfl ?_
    obtain ⟨q2, ct, K⟩ := K
    refine zw_callV (n := 1) (As := [.int v1]) (rest := [.ref 56, .int (h1.1 57 0)]) ct my_X8_held rfl rfl k_X8_128 i_X8_held s_X8_held zs_56 rfl dX8_transfers_24 (by decide) (Nat.le_of_ble_eq_true rfl) (Nat.le_refl 0) (Nat.le_refl 0) rfl (fun r s1 h2 hq => ?_)
    obtain ⟨x2, rfl, rfl, hq⟩ := hq
    have K := K x2 h2 hq
    refine zw.st (st' := [.int x2, .ref 56, .int (h1.1 57 0)]) rfl ?_
    refine zw_aload_n 1 dX8_transfers_27 rfl rfl rfl ?_
    refine zw_iload_n 3 dX8_transfers_28 rfl rfl rfl ?_
    obtain ⟨q3, ct, K⟩ := K
    refine zw_callV (n := 1) (As := [.int v2]) (rest := [.int x2, .ref 56, .int (h1.1 57 0)]) ct my_X8_held rfl rfl k_X8_128 i_X8_held s_X8_held zs_56 rfl dX8_transfers_29 (by decide) (Nat.le_of_ble_eq_true rfl) (Nat.le_refl 0) (Nat.le_refl 0) rfl (fun r s1 h3 hq => ?_)
    obtain ⟨x3, rfl, rfl, hq⟩ := hq
    have K := K x3 h3 hq
    refine zw.st (st' := [.int x3, .int x2, .ref 56, .int (h1.1 57 0)]) rfl ?_
    obtain ⟨q4, ct, K⟩ := K
    refine zw_callV (n := 2) (As := [.int x2, .int x3]) (rest := [.int (h1.1 57 0)]) ct my_X8_most rfl rfl k_X8_218 i_X8_most s_X8_most zs_56 rfl dX8_transfers_32 (by decide) (Nat.le_of_ble_eq_true rfl) (Nat.le_refl 0) (Nat.le_refl 0) rfl (fun r s1 h4 hq => ?_)
    obtain ⟨x4, rfl, rfl, hq⟩ := hq
    have K := K x4 h4 hq
    refine zw.st (st' := [.int x4, .int (h1.1 57 0)]) rfl ?_
    refine zw_isub dX8_transfers_35 rfl ?_
    exact zw_ireturn (ty := .int) dX8_transfers_36 rfl rfl (Nat.le_refl 0) (Nat.le_refl 0) ⟨_, rfl, rfl, K⟩
  · have K := K.2 c
    refine zw_iload_n 0 dX8_transfers_11 rfl rfl rfl ?_
    refine zw_goto (np := 36) dX8_transfers_12 (by decide) ?_
    exact zw_ireturn (ty := .int) dX8_transfers_36 rfl rfl (Nat.le_refl 0) (Nat.le_refl 0) ⟨_, rfl, rfl, K⟩

set_option maxRecDepth 100000 in
set_option maxHeartbeats 4000000 in
theorem rX8_unlike_0 {q : Int32 → zw_H → Prop} {h : zw_H} {v1 v2 : Int32} (K : zwI 1 mX8_unlike q 5 [(0, .ref 56), (1, .int v1), (2, .int v2), (3, .int (0 : Int32)), (4, .int (0 : Int32))] [] h) : zwI 1 mX8_unlike q 0 [(0, .ref 56), (1, .int v1), (2, .int v2)] [] h := by
  refine zw_iconst (v := (0 : Int32)) dX8_unlike_0 (by decide) rfl ?_
  refine zw_istore_n dX8_unlike_1 rfl (by decide) rfl rfl ?_
  refine zw_iconst (v := (0 : Int32)) dX8_unlike_2 (by decide) rfl ?_
  refine zw_istore dX8_unlike_3 (by decide) rfl rfl ?_
  exact zw.sub [2, 3, 4, 1, 0] rfl K

set_option maxRecDepth 100000 in
set_option maxHeartbeats 4000000 in
theorem rX8_unlike_5 {q : Int32 → zw_H → Prop} {h : zw_H} {v1 v2 v3 v4 : Int32} (K : (((h.1 57 0) ≤ v4 → q v3 h) ∧ (¬ (h.1 57 0) ≤ v4 → zwI 1 mX8_unlike q 19 [(0, .ref 56), (1, .int v1), (2, .int v2), (3, .int v3), (4, .int v4), (5, .int (0 : Int32))] [] h))) : zwI 1 mX8_unlike q 5 [(0, .ref 56), (1, .int v1), (2, .int v2), (3, .int v3), (4, .int v4)] [] h := by
  refine zw_iload 4 dX8_unlike_5 rfl rfl ?_
  refine zw_aload_n 0 dX8_unlike_7 rfl rfl rfl ?_
  refine zw_getR f_X8_7 dX8_unlike_8 zs_56 rfl rfl ?_
  refine zw_iconst (v := (0 : Int32)) dX8_unlike_11 (by decide) rfl ?_
  refine zw_iald 0 dX8_unlike_12 zs_57 ⟨by decide, by decide⟩ (by decide) rfl ?_
  refine zw_icmp_ge (tg := 93) dX8_unlike_13 (by decide) rfl (fun c => ?_) (fun c => ?_)
  · have K := K.1 c
    refine zw_iload_n 3 dX8_unlike_93 rfl rfl rfl ?_
    exact zw_ireturn (ty := .int) dX8_unlike_94 rfl rfl (Nat.le_refl 0) (Nat.le_refl 0) ⟨_, rfl, rfl, K⟩
  · have K := K.2 c
    refine zw_iconst (v := (0 : Int32)) dX8_unlike_16 (by decide) rfl ?_
    refine zw_istore dX8_unlike_17 (by decide) rfl rfl ?_
    exact zw.sub [1, 2, 3, 4, 5, 0] rfl K

set_option maxRecDepth 100000 in
set_option maxHeartbeats 4000000 in
theorem rX8_unlike_19 {q : Int32 → zw_H → Prop} {h : zw_H} {v1 v2 v3 v4 v5 : Int32} (K : ((v4 ≤ v5 → zwI 1 mX8_unlike q 5 [(0, .ref 56), (1, .int v1), (2, .int v2), (3, .int v3), (4, .int (v4 + (1 : Int32)))] [] h) ∧ (¬ v4 ≤ v5 → (∃ q1 : Int32 → zw_H → Prop, zcI 0 mX8_at [.ref 56, .int v1, .int v4] h q1 ∧ (∀ (x1 : Int32) (h1 : zw_H), q1 x1 h1 → (∃ q2 : Int32 → zw_H → Prop, zcI 0 mX8_at [.ref 56, .int v1, .int v5] h1 q2 ∧ (∀ (x2 : Int32) (h2 : zw_H), q2 x2 h2 → ((¬ x1 = x2 → (∃ q3 : Int32 → zw_H → Prop, zcI 0 mX8_at [.ref 56, .int v2, .int v4] h2 q3 ∧ (∀ (x3 : Int32) (h3 : zw_H), q3 x3 h3 → (∃ q4 : Int32 → zw_H → Prop, zcI 0 mX8_at [.ref 56, .int v2, .int v5] h3 q4 ∧ (∀ (x4 : Int32) (h4 : zw_H), q4 x4 h4 → ((¬ x3 = x4 → (((0 : Int32) = (0 : Int32) → zwI 1 mX8_unlike q 19 [(0, .ref 56), (1, .int v1), (2, .int v2), (3, .int (v3 + (0 : Int32))), (4, .int v4), (5, .int (v5 + (1 : Int32)))] [] h4) ∧ (¬ (0 : Int32) = (0 : Int32) → zwI 1 mX8_unlike q 19 [(0, .ref 56), (1, .int v1), (2, .int v2), (3, .int (v3 + (1 : Int32))), (4, .int v4), (5, .int (v5 + (1 : Int32)))] [] h4))) ∧ (x3 = x4 → (((0 : Int32) = (1 : Int32) → zwI 1 mX8_unlike q 19 [(0, .ref 56), (1, .int v1), (2, .int v2), (3, .int (v3 + (0 : Int32))), (4, .int v4), (5, .int (v5 + (1 : Int32)))] [] h4) ∧ (¬ (0 : Int32) = (1 : Int32) → zwI 1 mX8_unlike q 19 [(0, .ref 56), (1, .int v1), (2, .int v2), (3, .int (v3 + (1 : Int32))), (4, .int v4), (5, .int (v5 + (1 : Int32)))] [] h4))))))))) ∧ (x1 = x2 → (∃ q5 : Int32 → zw_H → Prop, zcI 0 mX8_at [.ref 56, .int v2, .int v4] h2 q5 ∧ (∀ (x5 : Int32) (h5 : zw_H), q5 x5 h5 → (∃ q6 : Int32 → zw_H → Prop, zcI 0 mX8_at [.ref 56, .int v2, .int v5] h5 q6 ∧ (∀ (x6 : Int32) (h6 : zw_H), q6 x6 h6 → ((¬ x5 = x6 → (((1 : Int32) = (0 : Int32) → zwI 1 mX8_unlike q 19 [(0, .ref 56), (1, .int v1), (2, .int v2), (3, .int (v3 + (0 : Int32))), (4, .int v4), (5, .int (v5 + (1 : Int32)))] [] h6) ∧ (¬ (1 : Int32) = (0 : Int32) → zwI 1 mX8_unlike q 19 [(0, .ref 56), (1, .int v1), (2, .int v2), (3, .int (v3 + (1 : Int32))), (4, .int v4), (5, .int (v5 + (1 : Int32)))] [] h6))) ∧ (x5 = x6 → (((1 : Int32) = (1 : Int32) → zwI 1 mX8_unlike q 19 [(0, .ref 56), (1, .int v1), (2, .int v2), (3, .int (v3 + (0 : Int32))), (4, .int v4), (5, .int (v5 + (1 : Int32)))] [] h6) ∧ (¬ (1 : Int32) = (1 : Int32) → zwI 1 mX8_unlike q 19 [(0, .ref 56), (1, .int v1), (2, .int v2), (3, .int (v3 + (1 : Int32))), (4, .int v4), (5, .int (v5 + (1 : Int32)))] [] h6))))))))))))))))) : zwI 1 mX8_unlike q 19 [(0, .ref 56), (1, .int v1), (2, .int v2), (3, .int v3), (4, .int v4), (5, .int v5)] [] h := by
  refine zw_iload 5 dX8_unlike_19 rfl rfl ?_
  refine zw_iload 4 dX8_unlike_21 rfl rfl ?_
  refine zw_icmp_ge (tg := 87) dX8_unlike_23 (by decide) rfl (fun c => ?_) (fun c => ?_)
  · have K := K.1 c
    refine zw_iinc (v := (v4 + (1 : Int32))) 4 dX8_unlike_87 rfl rfl (by decide) rfl rfl ?_
    refine zw_goto (np := 5) dX8_unlike_90 (by decide) ?_
    exact zw.sub [1, 2, 3, 4, 0] rfl K
  · have K := K.2 c
    refine zw_iload_n 3 dX8_unlike_26 rfl rfl rfl ?_
    refine zw_aload_n 0 dX8_unlike_27 rfl rfl rfl ?_
    refine zw_iload_n 1 dX8_unlike_28 rfl rfl rfl ?_
    refine zw_iload 4 dX8_unlike_29 rfl rfl ?_
    obtain ⟨q1, ct, K⟩ := K
    refine zw_callV (n := 2) (As := [.int v1, .int v4]) (rest := [.int v3]) ct my_X8_at rfl rfl k_X8_65 i_X8_at s_X8_at zs_56 rfl dX8_unlike_31 (by decide) (Nat.le_of_ble_eq_true rfl) (Nat.le_refl 0) (Nat.le_refl 0) rfl (fun r s1 h1 hq => ?_)
    obtain ⟨x1, rfl, rfl, hq⟩ := hq
    have K := K x1 h1 hq
    refine zw.st (st' := [.int x1, .int v3]) rfl ?_
    refine zw_aload_n 0 dX8_unlike_34 rfl rfl rfl ?_
    refine zw_iload_n 1 dX8_unlike_35 rfl rfl rfl ?_
    refine zw_iload 5 dX8_unlike_36 rfl rfl ?_
    obtain ⟨q2, ct, K⟩ := K
    refine zw_callV (n := 2) (As := [.int v1, .int v5]) (rest := [.int x1, .int v3]) ct my_X8_at rfl rfl k_X8_65 i_X8_at s_X8_at zs_56 rfl dX8_unlike_38 (by decide) (Nat.le_of_ble_eq_true rfl) (Nat.le_refl 0) (Nat.le_refl 0) rfl (fun r s1 h2 hq => ?_)
    obtain ⟨x2, rfl, rfl, hq⟩ := hq
    have K := K x2 h2 hq
    refine zw.st (st' := [.int x2, .int x1, .int v3]) rfl ?_
    refine zw_icmp_ne (tg := 48) dX8_unlike_41 (by decide) rfl (fun c => ?_) (fun c => ?_)
    · have K := K.1 c
      refine zw_iconst (v := (0 : Int32)) dX8_unlike_48 (by decide) rfl ?_
      refine zw_aload_n 0 dX8_unlike_49 rfl rfl rfl ?_
      refine zw_iload_n 2 dX8_unlike_50 rfl rfl rfl ?_
      refine zw_iload 4 dX8_unlike_51 rfl rfl ?_
      obtain ⟨q3, ct, K⟩ := K
      refine zw_callV (n := 2) (As := [.int v2, .int v4]) (rest := [.int (0 : Int32), .int v3]) ct my_X8_at rfl rfl k_X8_65 i_X8_at s_X8_at zs_56 rfl dX8_unlike_53 (by decide) (Nat.le_of_ble_eq_true rfl) (Nat.le_refl 0) (Nat.le_refl 0) rfl (fun r s1 h3 hq => ?_)
      obtain ⟨x3, rfl, rfl, hq⟩ := hq
      have K := K x3 h3 hq
      refine zw.st (st' := [.int x3, .int (0 : Int32), .int v3]) rfl ?_
      refine zw_aload_n 0 dX8_unlike_56 rfl rfl rfl ?_
      refine zw_iload_n 2 dX8_unlike_57 rfl rfl rfl ?_
      refine zw_iload 5 dX8_unlike_58 rfl rfl ?_
      obtain ⟨q4, ct, K⟩ := K
      refine zw_callV (n := 2) (As := [.int v2, .int v5]) (rest := [.int x3, .int (0 : Int32), .int v3]) ct my_X8_at rfl rfl k_X8_65 i_X8_at s_X8_at zs_56 rfl dX8_unlike_60 (by decide) (Nat.le_of_ble_eq_true rfl) (Nat.le_refl 0) (Nat.le_refl 0) rfl (fun r s1 h4 hq => ?_)
      obtain ⟨x4, rfl, rfl, hq⟩ := hq
      have K := K x4 h4 hq
      refine zw.st (st' := [.int x4, .int x3, .int (0 : Int32), .int v3]) rfl ?_
      refine zw_icmp_ne (tg := 70) dX8_unlike_63 (by decide) rfl (fun c => ?_) (fun c => ?_)
      · have K := K.1 c
        refine zw_iconst (v := (0 : Int32)) dX8_unlike_70 (by decide) rfl ?_
        refine zw_icmp_eq (tg := 78) dX8_unlike_71 (by decide) rfl (fun c => ?_) (fun c => ?_)
        · have K := K.1 c
          refine zw_iconst (v := (0 : Int32)) dX8_unlike_78 (by decide) rfl ?_
          refine zw_iadd dX8_unlike_79 rfl ?_
          refine zw_istore_n dX8_unlike_80 rfl (by decide) rfl rfl ?_
          refine zw_iinc (v := (v5 + (1 : Int32))) 5 dX8_unlike_81 rfl rfl (by decide) rfl rfl ?_
          refine zw_goto (np := 19) dX8_unlike_84 (by decide) ?_
          exact zw.sub [2, 3, 4, 1, 5, 0] rfl K
        · have K := K.2 c
          refine zw_iconst (v := (1 : Int32)) dX8_unlike_74 (by decide) rfl ?_
          refine zw_goto (np := 79) dX8_unlike_75 (by decide) ?_
          refine zw_iadd dX8_unlike_79 rfl ?_
          refine zw_istore_n dX8_unlike_80 rfl (by decide) rfl rfl ?_
          refine zw_iinc (v := (v5 + (1 : Int32))) 5 dX8_unlike_81 rfl rfl (by decide) rfl rfl ?_
          refine zw_goto (np := 19) dX8_unlike_84 (by decide) ?_
          exact zw.sub [2, 3, 4, 1, 5, 0] rfl K
      · have K := K.2 c
        refine zw_iconst (v := (1 : Int32)) dX8_unlike_66 (by decide) rfl ?_
        refine zw_goto (np := 71) dX8_unlike_67 (by decide) ?_
        refine zw_icmp_eq (tg := 78) dX8_unlike_71 (by decide) rfl (fun c => ?_) (fun c => ?_)
        · have K := K.1 c
          refine zw_iconst (v := (0 : Int32)) dX8_unlike_78 (by decide) rfl ?_
          refine zw_iadd dX8_unlike_79 rfl ?_
          refine zw_istore_n dX8_unlike_80 rfl (by decide) rfl rfl ?_
          refine zw_iinc (v := (v5 + (1 : Int32))) 5 dX8_unlike_81 rfl rfl (by decide) rfl rfl ?_
          refine zw_goto (np := 19) dX8_unlike_84 (by decide) ?_
          exact zw.sub [2, 3, 4, 1, 5, 0] rfl K
        · have K := K.2 c
          refine zw_iconst (v := (1 : Int32)) dX8_unlike_74 (by decide) rfl ?_
          refine zw_goto (np := 79) dX8_unlike_75 (by decide) ?_
          refine zw_iadd dX8_unlike_79 rfl ?_
          refine zw_istore_n dX8_unlike_80 rfl (by decide) rfl rfl ?_
          refine zw_iinc (v := (v5 + (1 : Int32))) 5 dX8_unlike_81 rfl rfl (by decide) rfl rfl ?_
          refine zw_goto (np := 19) dX8_unlike_84 (by decide) ?_
          exact zw.sub [2, 3, 4, 1, 5, 0] rfl K
    · have K := K.2 c
      refine zw_iconst (v := (1 : Int32)) dX8_unlike_44 (by decide) rfl ?_
      refine zw_goto (np := 49) dX8_unlike_45 (by decide) ?_
      refine zw_aload_n 0 dX8_unlike_49 rfl rfl rfl ?_
      refine zw_iload_n 2 dX8_unlike_50 rfl rfl rfl ?_
      refine zw_iload 4 dX8_unlike_51 rfl rfl ?_
      obtain ⟨q5, ct, K⟩ := K
      refine zw_callV (n := 2) (As := [.int v2, .int v4]) (rest := [.int (1 : Int32), .int v3]) ct my_X8_at rfl rfl k_X8_65 i_X8_at s_X8_at zs_56 rfl dX8_unlike_53 (by decide) (Nat.le_of_ble_eq_true rfl) (Nat.le_refl 0) (Nat.le_refl 0) rfl (fun r s1 h5 hq => ?_)
      obtain ⟨x5, rfl, rfl, hq⟩ := hq
      have K := K x5 h5 hq
      refine zw.st (st' := [.int x5, .int (1 : Int32), .int v3]) rfl ?_
      refine zw_aload_n 0 dX8_unlike_56 rfl rfl rfl ?_
      refine zw_iload_n 2 dX8_unlike_57 rfl rfl rfl ?_
      refine zw_iload 5 dX8_unlike_58 rfl rfl ?_
      obtain ⟨q6, ct, K⟩ := K
      refine zw_callV (n := 2) (As := [.int v2, .int v5]) (rest := [.int x5, .int (1 : Int32), .int v3]) ct my_X8_at rfl rfl k_X8_65 i_X8_at s_X8_at zs_56 rfl dX8_unlike_60 (by decide) (Nat.le_of_ble_eq_true rfl) (Nat.le_refl 0) (Nat.le_refl 0) rfl (fun r s1 h6 hq => ?_)
      obtain ⟨x6, rfl, rfl, hq⟩ := hq
      have K := K x6 h6 hq
      refine zw.st (st' := [.int x6, .int x5, .int (1 : Int32), .int v3]) rfl ?_
      refine zw_icmp_ne (tg := 70) dX8_unlike_63 (by decide) rfl (fun c => ?_) (fun c => ?_)
      · have K := K.1 c
        refine zw_iconst (v := (0 : Int32)) dX8_unlike_70 (by decide) rfl ?_
        refine zw_icmp_eq (tg := 78) dX8_unlike_71 (by decide) rfl (fun c => ?_) (fun c => ?_)
        · have K := K.1 c
          refine zw_iconst (v := (0 : Int32)) dX8_unlike_78 (by decide) rfl ?_
          refine zw_iadd dX8_unlike_79 rfl ?_
          refine zw_istore_n dX8_unlike_80 rfl (by decide) rfl rfl ?_
          refine zw_iinc (v := (v5 + (1 : Int32))) 5 dX8_unlike_81 rfl rfl (by decide) rfl rfl ?_
          refine zw_goto (np := 19) dX8_unlike_84 (by decide) ?_
          exact zw.sub [2, 3, 4, 1, 5, 0] rfl K
        · have K := K.2 c
          refine zw_iconst (v := (1 : Int32)) dX8_unlike_74 (by decide) rfl ?_
          refine zw_goto (np := 79) dX8_unlike_75 (by decide) ?_
          refine zw_iadd dX8_unlike_79 rfl ?_
          refine zw_istore_n dX8_unlike_80 rfl (by decide) rfl rfl ?_
          refine zw_iinc (v := (v5 + (1 : Int32))) 5 dX8_unlike_81 rfl rfl (by decide) rfl rfl ?_
          refine zw_goto (np := 19) dX8_unlike_84 (by decide) ?_
          exact zw.sub [2, 3, 4, 1, 5, 0] rfl K
      · have K := K.2 c
        refine zw_iconst (v := (1 : Int32)) dX8_unlike_66 (by decide) rfl ?_
        refine zw_goto (np := 71) dX8_unlike_67 (by decide) ?_
        refine zw_icmp_eq (tg := 78) dX8_unlike_71 (by decide) rfl (fun c => ?_) (fun c => ?_)
        · have K := K.1 c
          refine zw_iconst (v := (0 : Int32)) dX8_unlike_78 (by decide) rfl ?_
          refine zw_iadd dX8_unlike_79 rfl ?_
          refine zw_istore_n dX8_unlike_80 rfl (by decide) rfl rfl ?_
          refine zw_iinc (v := (v5 + (1 : Int32))) 5 dX8_unlike_81 rfl rfl (by decide) rfl rfl ?_
          refine zw_goto (np := 19) dX8_unlike_84 (by decide) ?_
          exact zw.sub [2, 3, 4, 1, 5, 0] rfl K
        · have K := K.2 c
          refine zw_iconst (v := (1 : Int32)) dX8_unlike_74 (by decide) rfl ?_
          refine zw_goto (np := 79) dX8_unlike_75 (by decide) ?_
          refine zw_iadd dX8_unlike_79 rfl ?_
          refine zw_istore_n dX8_unlike_80 rfl (by decide) rfl rfl ?_
          refine zw_iinc (v := (v5 + (1 : Int32))) 5 dX8_unlike_81 rfl rfl (by decide) rfl rfl ?_
          refine zw_goto (np := 19) dX8_unlike_84 (by decide) ?_
          exact zw.sub [2, 3, 4, 1, 5, 0] rfl K

set_option maxRecDepth 100000 in
set_option maxHeartbeats 4000000 in
theorem rX8_disagreements_0 {q : Int32 → zw_H → Prop} {h : zw_H} {v1 v2 : Int32} (K : (∃ q1 : Int32 → zw_H → Prop, zcI 2 mX8_wrongOf [.ref 56, .int v1, .int v2] h q1 ∧ (∀ (x1 : Int32) (h1 : zw_H), q1 x1 h1 → ((x1 = 0 → (∃ q2 : Int32 → zw_H → Prop, zcI 0 mX8_held [.ref 56, .int v1] h1 q2 ∧ (∀ (x2 : Int32) (h2 : zw_H), q2 x2 h2 → (∃ q3 : Int32 → zw_H → Prop, zcI 0 mX8_held [.ref 56, .int v2] h2 q3 ∧ (∀ (x3 : Int32) (h3 : zw_H), q3 x3 h3 → (∃ q4 : Int32 → zw_H → Prop, zcI 1 mX8_unlike [.ref 56, .int x2, .int x3] h3 q4 ∧ (∀ (x4 : Int32) (h4 : zw_H), q4 x4 h4 → q x4 h4))))))) ∧ (¬ x1 = 0 → q x1 h1))))) : zwI 3 mX8_disagreements q 0 [(0, .ref 56), (1, .int v1), (2, .int v2)] [] h := by
  refine zw_aload_n 0 dX8_disagreements_0 rfl rfl rfl ?_
  refine zw_iload_n 1 dX8_disagreements_1 rfl rfl rfl ?_
  refine zw_iload_n 2 dX8_disagreements_2 rfl rfl rfl ?_
  obtain ⟨q1, ct, K⟩ := K
  refine zw_callV (n := 2) (As := [.int v1, .int v2]) (rest := []) ct my_X8_wrongOf rfl rfl k_X8_134 i_X8_wrongOf s_X8_wrongOf zs_56 rfl dX8_disagreements_3 (by decide) (Nat.le_of_ble_eq_true rfl) (Nat.le_refl 0) (Nat.le_refl 0) rfl (fun r s1 h1 hq => ?_)
  obtain ⟨x1, rfl, rfl, hq⟩ := hq
  have K := K x1 h1 hq
  refine zw.st (st' := [.int x1]) rfl ?_
  refine zw_istore_n dX8_disagreements_6 rfl (by decide) rfl rfl ?_
  refine zw_iload_n 0 dX8_disagreements_7 rfl rfl rfl ?_
  refine zw_if_eq (tg := 15) dX8_disagreements_8 (by decide) rfl (fun c => ?_) (fun c => ?_)
  · have K := K.1 c
    refine zw_aload_n 1 dX8_disagreements_15 rfl rfl rfl ?_
    refine zw_aload_n 1 dX8_disagreements_16 rfl rfl rfl ?_
    refine zw_iload_n 2 dX8_disagreements_17 rfl rfl rfl ?_
    obtain ⟨q2, ct, K⟩ := K
    refine zw_callV (n := 1) (As := [.int v1]) (rest := [.ref 56]) ct my_X8_held rfl rfl k_X8_128 i_X8_held s_X8_held zs_56 rfl dX8_disagreements_18 (by decide) (Nat.le_of_ble_eq_true rfl) (Nat.le_refl 0) (Nat.le_refl 0) rfl (fun r s1 h2 hq => ?_)
    obtain ⟨x2, rfl, rfl, hq⟩ := hq
    have K := K x2 h2 hq
    refine zw.st (st' := [.int x2, .ref 56]) rfl ?_
    refine zw_aload_n 1 dX8_disagreements_21 rfl rfl rfl ?_
    refine zw_iload_n 3 dX8_disagreements_22 rfl rfl rfl ?_
    obtain ⟨q3, ct, K⟩ := K
    refine zw_callV (n := 1) (As := [.int v2]) (rest := [.int x2, .ref 56]) ct my_X8_held rfl rfl k_X8_128 i_X8_held s_X8_held zs_56 rfl dX8_disagreements_23 (by decide) (Nat.le_of_ble_eq_true rfl) (Nat.le_refl 0) (Nat.le_refl 0) rfl (fun r s1 h3 hq => ?_)
    obtain ⟨x3, rfl, rfl, hq⟩ := hq
    have K := K x3 h3 hq
    refine zw.st (st' := [.int x3, .int x2, .ref 56]) rfl ?_
    obtain ⟨q4, ct, K⟩ := K
    refine zw_callV (n := 2) (As := [.int x2, .int x3]) (rest := []) ct my_X8_unlike rfl rfl k_X8_221 i_X8_unlike s_X8_unlike zs_56 rfl dX8_disagreements_26 (by decide) (Nat.le_of_ble_eq_true rfl) (Nat.le_refl 0) (Nat.le_refl 0) rfl (fun r s1 h4 hq => ?_)
    obtain ⟨x4, rfl, rfl, hq⟩ := hq
    have K := K x4 h4 hq
    refine zw.st (st' := [.int x4]) rfl ?_
    exact zw_ireturn (ty := .int) dX8_disagreements_29 rfl rfl (Nat.le_refl 0) (Nat.le_refl 0) ⟨_, rfl, rfl, K⟩
  · have K := K.2 c
    refine zw_iload_n 0 dX8_disagreements_11 rfl rfl rfl ?_
    refine zw_goto (np := 29) dX8_disagreements_12 (by decide) ?_
    exact zw_ireturn (ty := .int) dX8_disagreements_29 rfl rfl (Nat.le_refl 0) (Nat.le_refl 0) ⟨_, rfl, rfl, K⟩

set_option maxRecDepth 100000 in
set_option maxHeartbeats 4000000 in
theorem rX8_unlikeAll_0 {q : Int32 → zw_H → Prop} {h : zw_H} {v1 v2 : Int32} (K : zwI 2 mX8_unlikeAll q 5 [(0, .ref 56), (1, .int v1), (2, .int v2), (3, .int (0 : Int32)), (4, .int (0 : Int32))] [] h) : zwI 2 mX8_unlikeAll q 0 [(0, .ref 56), (1, .int v1), (2, .int v2)] [] h := by
  refine zw_iconst (v := (0 : Int32)) dX8_unlikeAll_0 (by decide) rfl ?_
  refine zw_istore_n dX8_unlikeAll_1 rfl (by decide) rfl rfl ?_
  refine zw_iconst (v := (0 : Int32)) dX8_unlikeAll_2 (by decide) rfl ?_
  refine zw_istore dX8_unlikeAll_3 (by decide) rfl rfl ?_
  exact zw.sub [2, 3, 4, 1, 0] rfl K

set_option maxRecDepth 100000 in
set_option maxHeartbeats 4000000 in
theorem rX8_unlikeAll_5 {q : Int32 → zw_H → Prop} {h : zw_H} {v1 v2 v3 v4 : Int32} (K : (((8 : Int32) ≤ v4 → q v3 h) ∧ (¬ (8 : Int32) ≤ v4 → ((¬ ((v2 >>> (v4 &&& 31)) &&& (1 : Int32)) = (1 : Int32) → zwI 2 mX8_unlikeAll q 5 [(0, .ref 56), (1, .int v1), (2, .int v2), (3, .int (v3 + (0 : Int32))), (4, .int (v4 + (1 : Int32)))] [] h) ∧ (((v2 >>> (v4 &&& 31)) &&& (1 : Int32)) = (1 : Int32) → (∃ q1 : Int32 → zw_H → Prop, zcI 0 mX8_held [.ref 56, .int v4] h q1 ∧ (∀ (x1 : Int32) (h1 : zw_H), q1 x1 h1 → (∃ q2 : Int32 → zw_H → Prop, zcI 1 mX8_unlike [.ref 56, .int v1, .int x1] h1 q2 ∧ (∀ (x2 : Int32) (h2 : zw_H), q2 x2 h2 → zwI 2 mX8_unlikeAll q 5 [(0, .ref 56), (1, .int v1), (2, .int v2), (3, .int (v3 + x2)), (4, .int (v4 + (1 : Int32)))] [] h2))))))))) : zwI 2 mX8_unlikeAll q 5 [(0, .ref 56), (1, .int v1), (2, .int v2), (3, .int v3), (4, .int v4)] [] h := by
  refine zw_iload 4 dX8_unlikeAll_5 rfl rfl ?_
  refine zw_bipush (v := (8 : Int32)) dX8_unlikeAll_7 (by decide) rfl ?_
  refine zw_icmp_ge (tg := 46) dX8_unlikeAll_9 (by decide) rfl (fun c => ?_) (fun c => ?_)
  · have K := K.1 c
    refine zw_iload_n 3 dX8_unlikeAll_46 rfl rfl rfl ?_
    exact zw_ireturn (ty := .int) dX8_unlikeAll_47 rfl rfl (Nat.le_refl 0) (Nat.le_refl 0) ⟨_, rfl, rfl, K⟩
  · have K := K.2 c
    refine zw_iload_n 3 dX8_unlikeAll_12 rfl rfl rfl ?_
    refine zw_iload_n 2 dX8_unlikeAll_13 rfl rfl rfl ?_
    refine zw_iload 4 dX8_unlikeAll_14 rfl rfl ?_
    refine zw_ishr dX8_unlikeAll_16 rfl ?_
    refine zw_iconst (v := (1 : Int32)) dX8_unlikeAll_17 (by decide) rfl ?_
    refine zw_iand dX8_unlikeAll_18 rfl ?_
    refine zw_iconst (v := (1 : Int32)) dX8_unlikeAll_19 (by decide) rfl ?_
    refine zw_icmp_ne (tg := 37) dX8_unlikeAll_20 (by decide) rfl (fun c => ?_) (fun c => ?_)
    · have K := K.1 c
      refine zw_iconst (v := (0 : Int32)) dX8_unlikeAll_37 (by decide) rfl ?_
      refine zw_iadd dX8_unlikeAll_38 rfl ?_
      refine zw_istore_n dX8_unlikeAll_39 rfl (by decide) rfl rfl ?_
      refine zw_iinc (v := (v4 + (1 : Int32))) 4 dX8_unlikeAll_40 rfl rfl (by decide) rfl rfl ?_
      refine zw_goto (np := 5) dX8_unlikeAll_43 (by decide) ?_
      exact zw.sub [2, 3, 4, 1, 0] rfl K
    · have K := K.2 c
      refine zw_aload_n 0 dX8_unlikeAll_23 rfl rfl rfl ?_
      refine zw_iload_n 1 dX8_unlikeAll_24 rfl rfl rfl ?_
      refine zw_aload_n 0 dX8_unlikeAll_25 rfl rfl rfl ?_
      refine zw_iload 4 dX8_unlikeAll_26 rfl rfl ?_
      obtain ⟨q1, ct, K⟩ := K
      refine zw_callV (n := 1) (As := [.int v4]) (rest := [.int v1, .ref 56, .int v3]) ct my_X8_held rfl rfl k_X8_128 i_X8_held s_X8_held zs_56 rfl dX8_unlikeAll_28 (by decide) (Nat.le_of_ble_eq_true rfl) (Nat.le_refl 0) (Nat.le_refl 0) rfl (fun r s1 h1 hq => ?_)
      obtain ⟨x1, rfl, rfl, hq⟩ := hq
      have K := K x1 h1 hq
      refine zw.st (st' := [.int x1, .int v1, .ref 56, .int v3]) rfl ?_
      obtain ⟨q2, ct, K⟩ := K
      refine zw_callV (n := 2) (As := [.int v1, .int x1]) (rest := [.int v3]) ct my_X8_unlike rfl rfl k_X8_221 i_X8_unlike s_X8_unlike zs_56 rfl dX8_unlikeAll_31 (by decide) (Nat.le_of_ble_eq_true rfl) (Nat.le_refl 0) (Nat.le_refl 0) rfl (fun r s1 h2 hq => ?_)
      obtain ⟨x2, rfl, rfl, hq⟩ := hq
      have K := K x2 h2 hq
      refine zw.st (st' := [.int x2, .int v3]) rfl ?_
      refine zw_goto (np := 38) dX8_unlikeAll_34 (by decide) ?_
      refine zw_iadd dX8_unlikeAll_38 rfl ?_
      refine zw_istore_n dX8_unlikeAll_39 rfl (by decide) rfl rfl ?_
      refine zw_iinc (v := (v4 + (1 : Int32))) 4 dX8_unlikeAll_40 rfl rfl (by decide) rfl rfl ?_
      refine zw_goto (np := 5) dX8_unlikeAll_43 (by decide) ?_
      exact zw.sub [2, 3, 4, 1, 0] rfl K

set_option maxRecDepth 100000 in
set_option maxHeartbeats 4000000 in
theorem rX8_median_0 {q : Int32 → zw_H → Prop} {h : zw_H} {v1 v2 : Int32} (K : (∃ q1 : Int32 → zw_H → Prop, zcI 0 mX8_in [.int v1, .int (1 : Int32), .int (255 : Int32)] h q1 ∧ (∀ (x1 : Int32) (h1 : zw_H), q1 x1 h1 → ((x1 = 0 → q (-1 : Int32) h1) ∧ (¬ x1 = 0 → (∃ q2 : Int32 → zw_H → Prop, zcI 1 mX8_isRegister [.int v2] h1 q2 ∧ (∀ (x2 : Int32) (h2 : zw_H), q2 x2 h2 → ((¬ x2 = 0 → zwI 3 mX8_median q 22 [(0, .ref 56), (1, .int v1), (2, .int v2), (3, .int (0 : Int32))] [] h2) ∧ (x2 = 0 → q (-1 : Int32) h2))))))))) : zwI 3 mX8_median q 0 [(0, .ref 56), (1, .int v1), (2, .int v2)] [] h := by
  refine zw_iload_n 1 dX8_median_0 rfl rfl rfl ?_
  refine zw_iconst (v := (1 : Int32)) dX8_median_1 (by decide) rfl ?_
  refine zw_sipush (v := (255 : Int32)) dX8_median_2 (by decide) rfl ?_
  obtain ⟨q1, ct, K⟩ := K
  refine zw_callS (n := 3) (As := [.int v1, .int (1 : Int32), .int (255 : Int32)]) (rest := []) ct my_X8_in rfl rfl k_X8_96 t_X8_in dX8_median_5 (by decide) (Nat.le_of_ble_eq_true rfl) (Nat.le_refl 0) (Nat.le_refl 0) rfl (fun r s1 h1 hq => ?_)
  obtain ⟨x1, rfl, rfl, hq⟩ := hq
  have K := K x1 h1 hq
  refine zw.st (st' := [.int x1]) rfl ?_
  refine zw_if_eq (tg := 18) dX8_median_8 (by decide) rfl (fun c => ?_) (fun c => ?_)
  · have K := K.1 c
    refine zw_iconst (v := (-1 : Int32)) dX8_median_18 (by decide) rfl ?_
    exact zw_ireturn (ty := .int) dX8_median_19 rfl rfl (Nat.le_refl 0) (Nat.le_refl 0) ⟨_, rfl, rfl, K⟩
  · have K := K.2 c
    refine zw_iload_n 2 dX8_median_11 rfl rfl rfl ?_
    obtain ⟨q2, ct, K⟩ := K
    refine zw_callS (n := 1) (As := [.int v2]) (rest := []) ct my_X8_isRegister rfl rfl k_X8_115 t_X8_isRegister dX8_median_12 (by decide) (Nat.le_of_ble_eq_true rfl) (Nat.le_refl 0) (Nat.le_refl 0) rfl (fun r s1 h2 hq => ?_)
    obtain ⟨x2, rfl, rfl, hq⟩ := hq
    have K := K x2 h2 hq
    refine zw.st (st' := [.int x2]) rfl ?_
    refine zw_if_ne (tg := 20) dX8_median_15 (by decide) rfl (fun c => ?_) (fun c => ?_)
    · have K := K.1 c
      refine zw_iconst (v := (0 : Int32)) dX8_median_20 (by decide) rfl ?_
      refine zw_istore_n dX8_median_21 rfl (by decide) rfl rfl ?_
      exact zw.sub [1, 2, 3, 0] rfl K
    · have K := K.2 c
      refine zw_iconst (v := (-1 : Int32)) dX8_median_18 (by decide) rfl ?_
      exact zw_ireturn (ty := .int) dX8_median_19 rfl rfl (Nat.le_refl 0) (Nat.le_refl 0) ⟨_, rfl, rfl, K⟩

set_option maxRecDepth 100000 in
set_option maxHeartbeats 4000000 in
theorem rX8_median_22 {q : Int32 → zw_H → Prop} {h : zw_H} {v1 v2 v3 : Int32} (K : (((8 : Int32) ≤ v3 → zwI 3 mX8_median q 65 [(0, .ref 56), (1, .int v1), (2, .int v2), (3, .int (-9 : Int32)), (4, .int (0 : Int32)), (5, .int (0 : Int32))] [] h) ∧ (¬ (8 : Int32) ≤ v3 → ((¬ ((v1 >>> (v3 &&& 31)) &&& (1 : Int32)) = (1 : Int32) → zwI 3 mX8_median q 22 [(0, .ref 56), (1, .int v1), (2, .int v2), (3, .int (v3 + (1 : Int32)))] [] h) ∧ (((v1 >>> (v3 &&& 31)) &&& (1 : Int32)) = (1 : Int32) → (∃ q1 : Int32 → zw_H → Prop, zcI 0 mX8_held [.ref 56, .int v3] h q1 ∧ (∀ (x1 : Int32) (h1 : zw_H), q1 x1 h1 → ((¬ x1 = (-9 : Int32) → zwI 3 mX8_median q 22 [(0, .ref 56), (1, .int v1), (2, .int v2), (3, .int (v3 + (1 : Int32)))] [] h1) ∧ (x1 = (-9 : Int32) → q (-2 : Int32) h1))))))))) : zwI 3 mX8_median q 22 [(0, .ref 56), (1, .int v1), (2, .int v2), (3, .int v3)] [] h := by
  refine zw_iload_n 3 dX8_median_22 rfl rfl rfl ?_
  refine zw_bipush (v := (8 : Int32)) dX8_median_23 (by decide) rfl ?_
  refine zw_icmp_ge (tg := 56) dX8_median_25 (by decide) rfl (fun c => ?_) (fun c => ?_)
  · have K := K.1 c
    refine zw_bipush (v := (-9 : Int32)) dX8_median_56 (by decide) rfl ?_
    refine zw_istore_n dX8_median_58 rfl (by decide) rfl rfl ?_
    refine zw_iconst (v := (0 : Int32)) dX8_median_59 (by decide) rfl ?_
    refine zw_istore dX8_median_60 (by decide) rfl rfl ?_
    refine zw_iconst (v := (0 : Int32)) dX8_median_62 (by decide) rfl ?_
    refine zw_istore dX8_median_63 (by decide) rfl rfl ?_
    exact zw.sub [3, 4, 5, 2, 1, 0] rfl K
  · have K := K.2 c
    refine zw_iload_n 1 dX8_median_28 rfl rfl rfl ?_
    refine zw_iload_n 3 dX8_median_29 rfl rfl rfl ?_
    refine zw_ishr dX8_median_30 rfl ?_
    refine zw_iconst (v := (1 : Int32)) dX8_median_31 (by decide) rfl ?_
    refine zw_iand dX8_median_32 rfl ?_
    refine zw_iconst (v := (1 : Int32)) dX8_median_33 (by decide) rfl ?_
    refine zw_icmp_ne (tg := 50) dX8_median_34 (by decide) rfl (fun c => ?_) (fun c => ?_)
    · have K := K.1 c
      refine zw_iinc (v := (v3 + (1 : Int32))) 3 dX8_median_50 rfl rfl (by decide) rfl rfl ?_
      refine zw_goto (np := 22) dX8_median_53 (by decide) ?_
      exact zw.sub [1, 2, 3, 0] rfl K
    · have K := K.2 c
      refine zw_aload_n 0 dX8_median_37 rfl rfl rfl ?_
      refine zw_iload_n 3 dX8_median_38 rfl rfl rfl ?_
      obtain ⟨q1, ct, K⟩ := K
      refine zw_callV (n := 1) (As := [.int v3]) (rest := []) ct my_X8_held rfl rfl k_X8_128 i_X8_held s_X8_held zs_56 rfl dX8_median_39 (by decide) (Nat.le_of_ble_eq_true rfl) (Nat.le_refl 0) (Nat.le_refl 0) rfl (fun r s1 h1 hq => ?_)
      obtain ⟨x1, rfl, rfl, hq⟩ := hq
      have K := K x1 h1 hq
      refine zw.st (st' := [.int x1]) rfl ?_
      refine zw_bipush (v := (-9 : Int32)) dX8_median_42 (by decide) rfl ?_
      refine zw_icmp_ne (tg := 50) dX8_median_44 (by decide) rfl (fun c => ?_) (fun c => ?_)
      · have K := K.1 c
        refine zw_iinc (v := (v3 + (1 : Int32))) 3 dX8_median_50 rfl rfl (by decide) rfl rfl ?_
        refine zw_goto (np := 22) dX8_median_53 (by decide) ?_
        exact zw.sub [1, 2, 3, 0] rfl K
      · have K := K.2 c
        refine zw_bipush (v := (-2 : Int32)) dX8_median_47 (by decide) rfl ?_
        exact zw_ireturn (ty := .int) dX8_median_49 rfl rfl (Nat.le_refl 0) (Nat.le_refl 0) ⟨_, rfl, rfl, K⟩

set_option maxRecDepth 100000 in
set_option maxHeartbeats 4000000 in
theorem rX8_median_65 {q : Int32 → zw_H → Prop} {h : zw_H} {v1 v2 v3 v4 v5 : Int32} (K : (((h.1 56 7) ≤ v5 → ((¬ v3 = (-9 : Int32) → (∃ q1 : Int32 → zw_H → Prop, zcI 1 mX8_puts [.ref 56, .int v2, .int v3] h q1 ∧ (∀ (x1 : Int32) (h1 : zw_H), q1 x1 h1 → q v4 h1))) ∧ (v3 = (-9 : Int32) → q (-3 : Int32) h))) ∧ (¬ (h.1 56 7) ≤ v5 → (∃ q2 : Int32 → zw_H → Prop, zcI 0 mX8_isAdmitted [.ref 56, .int v5] h q2 ∧ (∀ (x2 : Int32) (h2 : zw_H), q2 x2 h2 → ((x2 = 0 → (∃ q3 : Int32 → zw_H → Prop, zcI 0 mX8_isAdmitted [.ref 56, .int v5] h2 q3 ∧ (∀ (x3 : Int32) (h3 : zw_H), q3 x3 h3 → ((x3 = 0 → zwI 3 mX8_median q 65 [(0, .ref 56), (1, .int v1), (2, .int v2), (3, .int v3), (4, .int v4), (5, .int (v5 + (1 : Int32)))] [] h3) ∧ (¬ x3 = 0 → ((v3 = (-9 : Int32) → zwI 3 mX8_median q 65 [(0, .ref 56), (1, .int v1), (2, .int v2), (3, .int v5), (4, .int (0 : Int32)), (5, .int (v5 + (1 : Int32)))] [] h3) ∧ (¬ v3 = (-9 : Int32) → ((v4 ≤ (0 : Int32) → zwI 3 mX8_median q 65 [(0, .ref 56), (1, .int v1), (2, .int v2), (3, .int v3), (4, .int v4), (5, .int (v5 + (1 : Int32)))] [] h3) ∧ (¬ v4 ≤ (0 : Int32) → zwI 3 mX8_median q 65 [(0, .ref 56), (1, .int v1), (2, .int v2), (3, .int v5), (4, .int (0 : Int32)), (5, .int (v5 + (1 : Int32)))] [] h3))))))))) ∧ (¬ x2 = 0 → (∃ q4 : Int32 → zw_H → Prop, zcI 2 mX8_unlikeAll [.ref 56, .int v5, .int v1] h2 q4 ∧ (∀ (x4 : Int32) (h4 : zw_H), q4 x4 h4 → (∃ q5 : Int32 → zw_H → Prop, zcI 0 mX8_isAdmitted [.ref 56, .int v5] h4 q5 ∧ (∀ (x5 : Int32) (h5 : zw_H), q5 x5 h5 → ((x5 = 0 → zwI 3 mX8_median q 65 [(0, .ref 56), (1, .int v1), (2, .int v2), (3, .int v3), (4, .int v4), (5, .int (v5 + (1 : Int32)))] [] h5) ∧ (¬ x5 = 0 → ((v3 = (-9 : Int32) → zwI 3 mX8_median q 65 [(0, .ref 56), (1, .int v1), (2, .int v2), (3, .int v5), (4, .int x4), (5, .int (v5 + (1 : Int32)))] [] h5) ∧ (¬ v3 = (-9 : Int32) → ((v4 ≤ x4 → zwI 3 mX8_median q 65 [(0, .ref 56), (1, .int v1), (2, .int v2), (3, .int v3), (4, .int v4), (5, .int (v5 + (1 : Int32)))] [] h5) ∧ (¬ v4 ≤ x4 → zwI 3 mX8_median q 65 [(0, .ref 56), (1, .int v1), (2, .int v2), (3, .int v5), (4, .int x4), (5, .int (v5 + (1 : Int32)))] [] h5))))))))))))))))) : zwI 3 mX8_median q 65 [(0, .ref 56), (1, .int v1), (2, .int v2), (3, .int v3), (4, .int v4), (5, .int v5)] [] h := by
  refine zw_iload 5 dX8_median_65 rfl rfl ?_
  refine zw_aload_n 0 dX8_median_67 rfl rfl rfl ?_
  refine zw_getI f_X8_52 dX8_median_68 zs_56 rfl rfl ?_
  refine zw_icmp_ge (tg := 131) dX8_median_71 (by decide) rfl (fun c => ?_) (fun c => ?_)
  · have K := K.1 c
    refine zw_iload_n 3 dX8_median_131 rfl rfl rfl ?_
    refine zw_bipush (v := (-9 : Int32)) dX8_median_132 (by decide) rfl ?_
    refine zw_icmp_ne (tg := 140) dX8_median_134 (by decide) rfl (fun c => ?_) (fun c => ?_)
    · have K := K.1 c
      refine zw_aload_n 0 dX8_median_140 rfl rfl rfl ?_
      refine zw_iload_n 2 dX8_median_141 rfl rfl rfl ?_
      refine zw_iload_n 3 dX8_median_142 rfl rfl rfl ?_
      obtain ⟨q1, ct, K⟩ := K
      refine zw_callV (n := 2) (As := [.int v2, .int v3]) (rest := []) ct my_X8_puts rfl rfl k_X8_125 i_X8_puts s_X8_puts zs_56 rfl dX8_median_143 (by decide) (Nat.le_of_ble_eq_true rfl) (Nat.le_refl 0) (Nat.le_refl 0) rfl (fun r s1 h1 hq => ?_)
      obtain ⟨x1, rfl, rfl, hq⟩ := hq
      have K := K x1 h1 hq
      refine zw.st (st' := [.int x1]) rfl ?_
      refine zw_pop dX8_median_146 rfl rfl ?_
      refine zw_iload 4 dX8_median_147 rfl rfl ?_
      exact zw_ireturn (ty := .int) dX8_median_149 rfl rfl (Nat.le_refl 0) (Nat.le_refl 0) ⟨_, rfl, rfl, K⟩
    · have K := K.2 c
      refine zw_bipush (v := (-3 : Int32)) dX8_median_137 (by decide) rfl ?_
      exact zw_ireturn (ty := .int) dX8_median_139 rfl rfl (Nat.le_refl 0) (Nat.le_refl 0) ⟨_, rfl, rfl, K⟩
  · have K := K.2 c
    refine zw_aload_n 0 dX8_median_74 rfl rfl rfl ?_
    refine zw_iload 5 dX8_median_75 rfl rfl ?_
    obtain ⟨q2, ct, K⟩ := K
    refine zw_callV (n := 1) (As := [.int v5]) (rest := []) ct my_X8_isAdmitted rfl rfl k_X8_150 i_X8_isAdmitted s_X8_isAdmitted zs_56 rfl dX8_median_77 (by decide) (Nat.le_of_ble_eq_true rfl) (Nat.le_refl 0) (Nat.le_refl 0) rfl (fun r s1 h2 hq => ?_)
    obtain ⟨x2, rfl, rfl, hq⟩ := hq
    have K := K x2 h2 hq
    refine zw.st (st' := [.int x2]) rfl ?_
    refine zw_if_eq (tg := 93) dX8_median_80 (by decide) rfl (fun c => ?_) (fun c => ?_)
    · have K := K.1 c
      refine zw_iconst (v := (0 : Int32)) dX8_median_93 (by decide) rfl ?_
      refine zw_istore dX8_median_94 (by decide) rfl rfl ?_
      refine zw_aload_n 1 dX8_median_96 rfl rfl rfl ?_
      refine zw_iload 6 dX8_median_97 rfl rfl ?_
      obtain ⟨q3, ct, K⟩ := K
      refine zw_callV (n := 1) (As := [.int v5]) (rest := []) ct my_X8_isAdmitted rfl rfl k_X8_150 i_X8_isAdmitted s_X8_isAdmitted zs_56 rfl dX8_median_99 (by decide) (Nat.le_of_ble_eq_true rfl) (Nat.le_refl 0) (Nat.le_refl 0) rfl (fun r s1 h3 hq => ?_)
      obtain ⟨x3, rfl, rfl, hq⟩ := hq
      have K := K x3 h3 hq
      refine zw.st (st' := [.int x3]) rfl ?_
      refine zw_if_eq (tg := 125) dX8_median_102 (by decide) rfl (fun c => ?_) (fun c => ?_)
      · have K := K.1 c
        refine zw_iinc (v := (v5 + (1 : Int32))) 6 dX8_median_125 rfl rfl (by decide) rfl rfl ?_
        refine zw_goto (np := 65) dX8_median_128 (by decide) ?_
        exact zw.sub [2, 3, 4, 5, 6, 0] rfl K
      · have K := K.2 c
        refine zw_iload_n 4 dX8_median_105 rfl rfl rfl ?_
        refine zw_bipush (v := (-9 : Int32)) dX8_median_106 (by decide) rfl ?_
        refine zw_icmp_eq (tg := 118) dX8_median_108 (by decide) rfl (fun c => ?_) (fun c => ?_)
        · have K := K.1 c
          refine zw_iload 6 dX8_median_118 rfl rfl ?_
          refine zw_istore_n dX8_median_120 rfl (by decide) rfl rfl ?_
          refine zw_iload 1 dX8_median_121 rfl rfl ?_
          refine zw_istore dX8_median_123 (by decide) rfl rfl ?_
          refine zw_iinc (v := (v5 + (1 : Int32))) 6 dX8_median_125 rfl rfl (by decide) rfl rfl ?_
          refine zw_goto (np := 65) dX8_median_128 (by decide) ?_
          exact zw.sub [4, 5, 6, 2, 1, 0] rfl K
        · have K := K.2 c
          refine zw_iload 0 dX8_median_111 rfl rfl ?_
          refine zw_iload 5 dX8_median_113 rfl rfl ?_
          refine zw_icmp_ge (tg := 125) dX8_median_115 (by decide) rfl (fun c => ?_) (fun c => ?_)
          · have K := K.1 c
            refine zw_iinc (v := (v5 + (1 : Int32))) 6 dX8_median_125 rfl rfl (by decide) rfl rfl ?_
            refine zw_goto (np := 65) dX8_median_128 (by decide) ?_
            exact zw.sub [2, 3, 4, 5, 6, 0] rfl K
          · have K := K.2 c
            refine zw_iload 6 dX8_median_118 rfl rfl ?_
            refine zw_istore_n dX8_median_120 rfl (by decide) rfl rfl ?_
            refine zw_iload 1 dX8_median_121 rfl rfl ?_
            refine zw_istore dX8_median_123 (by decide) rfl rfl ?_
            refine zw_iinc (v := (v5 + (1 : Int32))) 6 dX8_median_125 rfl rfl (by decide) rfl rfl ?_
            refine zw_goto (np := 65) dX8_median_128 (by decide) ?_
            exact zw.sub [4, 5, 6, 2, 1, 0] rfl K
    · have K := K.2 c
      refine zw_aload_n 0 dX8_median_83 rfl rfl rfl ?_
      refine zw_iload 5 dX8_median_84 rfl rfl ?_
      refine zw_iload_n 1 dX8_median_86 rfl rfl rfl ?_
      obtain ⟨q4, ct, K⟩ := K
      refine zw_callV (n := 2) (As := [.int v5, .int v1]) (rest := []) ct my_X8_unlikeAll rfl rfl k_X8_224 i_X8_unlikeAll s_X8_unlikeAll zs_56 rfl dX8_median_87 (by decide) (Nat.le_of_ble_eq_true rfl) (Nat.le_refl 0) (Nat.le_refl 0) rfl (fun r s1 h4 hq => ?_)
      obtain ⟨x4, rfl, rfl, hq⟩ := hq
      have K := K x4 h4 hq
      refine zw.st (st' := [.int x4]) rfl ?_
      refine zw_goto (np := 94) dX8_median_90 (by decide) ?_
      refine zw_istore dX8_median_94 (by decide) rfl rfl ?_
      refine zw_aload_n 1 dX8_median_96 rfl rfl rfl ?_
      refine zw_iload 6 dX8_median_97 rfl rfl ?_
      obtain ⟨q5, ct, K⟩ := K
      refine zw_callV (n := 1) (As := [.int v5]) (rest := []) ct my_X8_isAdmitted rfl rfl k_X8_150 i_X8_isAdmitted s_X8_isAdmitted zs_56 rfl dX8_median_99 (by decide) (Nat.le_of_ble_eq_true rfl) (Nat.le_refl 0) (Nat.le_refl 0) rfl (fun r s1 h5 hq => ?_)
      obtain ⟨x5, rfl, rfl, hq⟩ := hq
      have K := K x5 h5 hq
      refine zw.st (st' := [.int x5]) rfl ?_
      refine zw_if_eq (tg := 125) dX8_median_102 (by decide) rfl (fun c => ?_) (fun c => ?_)
      · have K := K.1 c
        refine zw_iinc (v := (v5 + (1 : Int32))) 6 dX8_median_125 rfl rfl (by decide) rfl rfl ?_
        refine zw_goto (np := 65) dX8_median_128 (by decide) ?_
        exact zw.sub [2, 3, 4, 5, 6, 0] rfl K
      · have K := K.2 c
        refine zw_iload_n 4 dX8_median_105 rfl rfl rfl ?_
        refine zw_bipush (v := (-9 : Int32)) dX8_median_106 (by decide) rfl ?_
        refine zw_icmp_eq (tg := 118) dX8_median_108 (by decide) rfl (fun c => ?_) (fun c => ?_)
        · have K := K.1 c
          refine zw_iload 6 dX8_median_118 rfl rfl ?_
          refine zw_istore_n dX8_median_120 rfl (by decide) rfl rfl ?_
          refine zw_iload 1 dX8_median_121 rfl rfl ?_
          refine zw_istore dX8_median_123 (by decide) rfl rfl ?_
          refine zw_iinc (v := (v5 + (1 : Int32))) 6 dX8_median_125 rfl rfl (by decide) rfl rfl ?_
          refine zw_goto (np := 65) dX8_median_128 (by decide) ?_
          exact zw.sub [4, 5, 6, 2, 1, 0] rfl K
        · have K := K.2 c
          refine zw_iload 0 dX8_median_111 rfl rfl ?_
          refine zw_iload 5 dX8_median_113 rfl rfl ?_
          refine zw_icmp_ge (tg := 125) dX8_median_115 (by decide) rfl (fun c => ?_) (fun c => ?_)
          · have K := K.1 c
            refine zw_iinc (v := (v5 + (1 : Int32))) 6 dX8_median_125 rfl rfl (by decide) rfl rfl ?_
            refine zw_goto (np := 65) dX8_median_128 (by decide) ?_
            exact zw.sub [2, 3, 4, 5, 6, 0] rfl K
          · have K := K.2 c
            refine zw_iload 6 dX8_median_118 rfl rfl ?_
            refine zw_istore_n dX8_median_120 rfl (by decide) rfl rfl ?_
            refine zw_iload 1 dX8_median_121 rfl rfl ?_
            refine zw_istore dX8_median_123 (by decide) rfl rfl ?_
            refine zw_iinc (v := (v5 + (1 : Int32))) 6 dX8_median_125 rfl rfl (by decide) rfl rfl ?_
            refine zw_goto (np := 65) dX8_median_128 (by decide) ?_
            exact zw.sub [4, 5, 6, 2, 1, 0] rfl K

set_option maxRecDepth 100000 in
set_option maxHeartbeats 4000000 in
theorem rX8_undo_0 {q : Int32 → zw_H → Prop} {h : zw_H} (K : ((¬ (h.1 56 1) = 0 → zwI 5 mX8_undo q 12 [(0, .ref 56), (1, .int (0 : Int32))] [] h) ∧ ((h.1 56 1) = 0 → q (-3 : Int32) h))) : zwI 5 mX8_undo q 0 [(0, .ref 56)] [] h := by
  refine zw_aload_n 0 dX8_undo_0 rfl rfl rfl ?_
  refine zw_getI f_X8_48 dX8_undo_1 zs_56 rfl rfl ?_
  refine zw_if_ne (tg := 10) dX8_undo_4 (by decide) rfl (fun c => ?_) (fun c => ?_)
  · have K := K.1 c
    refine zw_iconst (v := (0 : Int32)) dX8_undo_10 (by decide) rfl ?_
    refine zw_istore_n dX8_undo_11 rfl (by decide) rfl rfl ?_
    exact zw.sub [1, 0] rfl K
  · have K := K.2 c
    refine zw_bipush (v := (-3 : Int32)) dX8_undo_7 (by decide) rfl ?_
    exact zw_ireturn (ty := .int) dX8_undo_9 rfl rfl (Nat.le_refl 0) (Nat.le_refl 0) ⟨_, rfl, rfl, K⟩

set_option maxRecDepth 100000 in
set_option maxHeartbeats 4000000 in
theorem rX8_undo_12 {q : Int32 → zw_H → Prop} {h : zw_H} {v1 : Int32} (K : (((14 : Int32) ≤ v1 → (∀ h1 : zw_H, h1 = zw_sI h 56 1 ((h.1 56 1) - (1 : Int32)) → (∃ q2 : zw_H → Prop, zcV 1 mX8_lays [.ref 56] h1 q2 ∧ (∀ h2 : zw_H, q2 h2 → (∃ q3 : zw_H → Prop, zcV 4 mX8_admits [.ref 56] h2 q3 ∧ (∀ h3 : zw_H, q3 h3 → q (h3.1 56 1) h3)))))) ∧ (¬ (14 : Int32) ≤ v1 → (∃ j4 : Nat, (((14 : Int32) * (h.1 56 1)) + v1) = nI j4 ∧ j4 < 154 ∧ (∃ j5 : Nat, v1 = nI j5 ∧ j5 < 154 ∧ ∀ h6 : zw_H, h6 = zw_sI h 57 j5 (h.1 57 j4) → zwI 5 mX8_undo q 12 [(0, .ref 56), (1, .int (v1 + (1 : Int32)))] [] h6))))) : zwI 5 mX8_undo q 12 [(0, .ref 56), (1, .int v1)] [] h := by
  refine zw_iload_n 1 dX8_undo_12 rfl rfl rfl ?_
  refine zw_bipush (v := (14 : Int32)) dX8_undo_13 (by decide) rfl ?_
  refine zw_icmp_ge (tg := 44) dX8_undo_15 (by decide) rfl (fun c => ?_) (fun c => ?_)
  · have K := K.1 c
    refine zw_aload_n 0 dX8_undo_44 rfl rfl rfl ?_
    refine zw_dup dX8_undo_45 rfl rfl ?_
    refine zw_getI f_X8_48 dX8_undo_46 zs_56 rfl rfl ?_
    refine zw_iconst (v := (1 : Int32)) dX8_undo_49 (by decide) rfl ?_
    refine zw_isub dX8_undo_50 rfl ?_
    refine zw_putI f_X8_48 cl_X8 rfl ⟨rfl, rfl⟩ dX8_undo_51 zs_56 rfl rfl ?_
    generalize e1 : zw_sI h 56 1 ((h.1 56 1) - (1 : Int32)) = h1
    have K := K h1 e1.symm
    refine zw_aload_n 0 dX8_undo_54 rfl rfl rfl ?_
    obtain ⟨q2, ct, K⟩ := K
    refine zw_callV (n := 0) (As := []) (rest := []) ct my_X8_lays rfl rfl k_X8_42 i_X8_lays s_X8_lays zs_56 rfl dX8_undo_55 (by decide) (Nat.le_of_ble_eq_true rfl) (Nat.le_refl 0) (Nat.le_refl 0) rfl (fun r s1 h2 hq => ?_)
    obtain ⟨rfl, rfl, hq⟩ := hq
    have K := K h2 hq
    refine zw.st (st' := []) rfl ?_
    refine zw_aload_n 0 dX8_undo_58 rfl rfl rfl ?_
    obtain ⟨q3, ct, K⟩ := K
    refine zw_callV (n := 0) (As := []) (rest := []) ct my_X8_admits rfl rfl k_X8_45 i_X8_admits s_X8_admits zs_56 rfl dX8_undo_59 (by decide) (Nat.le_of_ble_eq_true rfl) (Nat.le_refl 0) (Nat.le_refl 0) rfl (fun r s1 h3 hq => ?_)
    obtain ⟨rfl, rfl, hq⟩ := hq
    have K := K h3 hq
    refine zw.st (st' := []) rfl ?_
    refine zw_aload_n 0 dX8_undo_62 rfl rfl rfl ?_
    refine zw_getI f_X8_48 dX8_undo_63 zs_56 rfl rfl ?_
    exact zw_ireturn (ty := .int) dX8_undo_66 rfl rfl (Nat.le_refl 0) (Nat.le_refl 0) ⟨_, rfl, rfl, K⟩
  · have K := K.2 c
    refine zw_aload_n 0 dX8_undo_18 rfl rfl rfl ?_
    refine zw_getR f_X8_7 dX8_undo_19 zs_56 rfl rfl ?_
    refine zw_iload_n 1 dX8_undo_22 rfl rfl rfl ?_
    refine zw_aload_n 0 dX8_undo_23 rfl rfl rfl ?_
    refine zw_getR f_X8_7 dX8_undo_24 zs_56 rfl rfl ?_
    refine zw_bipush (v := (14 : Int32)) dX8_undo_27 (by decide) rfl ?_
    refine zw_aload_n 0 dX8_undo_29 rfl rfl rfl ?_
    refine zw_getI f_X8_48 dX8_undo_30 zs_56 rfl rfl ?_
    refine zw_imul dX8_undo_33 rfl ?_
    refine zw_iload_n 1 dX8_undo_34 rfl rfl rfl ?_
    refine zw_iadd dX8_undo_35 rfl ?_
    obtain ⟨j4, hj4, hn4, K⟩ := K
    refine zw_iald j4 dX8_undo_36 zs_57 ⟨hj4, hn4⟩ (by decide) rfl ?_
    obtain ⟨j5, hj5, hn5, K⟩ := K
    refine zw_iast j5 dX8_undo_37 zs_57 ⟨hj5, hn5⟩ (by decide) rfl ?_
    generalize e6 : zw_sI h 57 j5 (h.1 57 j4) = h6
    have K := K h6 e6.symm
    refine zw_iinc (v := (v1 + (1 : Int32))) 1 dX8_undo_38 rfl rfl (by decide) rfl rfl ?_
    refine zw_goto (np := 12) dX8_undo_41 (by decide) ?_
    exact zw.sub [1, 0] rfl K

set_option maxRecDepth 100000 in
set_option maxHeartbeats 4000000 in
theorem rX8_bits_0 {q : Int32 → zw_H → Prop} {h : zw_H} {v0 : Int32} (K : zwI 0 mX8_bits q 4 [(0, .int v0), (1, .int (0 : Int32)), (2, .int (0 : Int32))] [] h) : zwI 0 mX8_bits q 0 [(0, .int v0)] [] h := by
  refine zw_iconst (v := (0 : Int32)) dX8_bits_0 (by decide) rfl ?_
  refine zw_istore_n dX8_bits_1 rfl (by decide) rfl rfl ?_
  refine zw_iconst (v := (0 : Int32)) dX8_bits_2 (by decide) rfl ?_
  refine zw_istore_n dX8_bits_3 rfl (by decide) rfl rfl ?_
  exact zw.sub [2, 1, 0] rfl K

set_option maxRecDepth 100000 in
set_option maxHeartbeats 4000000 in
theorem rX8_bits_4 {q : Int32 → zw_H → Prop} {h : zw_H} {v0 v1 v2 : Int32} (K : (((16 : Int32) ≤ v2 → q v1 h) ∧ (¬ (16 : Int32) ≤ v2 → zwI 0 mX8_bits q 4 [(0, .int v0), (1, .int (v1 + ((v0 >>> (v2 &&& 31)) &&& (1 : Int32)))), (2, .int (v2 + (1 : Int32)))] [] h))) : zwI 0 mX8_bits q 4 [(0, .int v0), (1, .int v1), (2, .int v2)] [] h := by
  refine zw_iload_n 2 dX8_bits_4 rfl rfl rfl ?_
  refine zw_bipush (v := (16 : Int32)) dX8_bits_5 (by decide) rfl ?_
  refine zw_icmp_ge (tg := 24) dX8_bits_7 (by decide) rfl (fun c => ?_) (fun c => ?_)
  · have K := K.1 c
    refine zw_iload_n 1 dX8_bits_24 rfl rfl rfl ?_
    exact zw_ireturn (ty := .int) dX8_bits_25 rfl rfl (Nat.le_refl 0) (Nat.le_refl 0) ⟨_, rfl, rfl, K⟩
  · have K := K.2 c
    refine zw_iload_n 1 dX8_bits_10 rfl rfl rfl ?_
    refine zw_iload_n 0 dX8_bits_11 rfl rfl rfl ?_
    refine zw_iload_n 2 dX8_bits_12 rfl rfl rfl ?_
    refine zw_ishr dX8_bits_13 rfl ?_
    refine zw_iconst (v := (1 : Int32)) dX8_bits_14 (by decide) rfl ?_
    refine zw_iand dX8_bits_15 rfl ?_
    refine zw_iadd dX8_bits_16 rfl ?_
    refine zw_istore_n dX8_bits_17 rfl (by decide) rfl rfl ?_
    refine zw_iinc (v := (v2 + (1 : Int32))) 2 dX8_bits_18 rfl rfl (by decide) rfl rfl ?_
    refine zw_goto (np := 4) dX8_bits_21 (by decide) ?_
    exact zw.sub [2, 1, 0] rfl K

set_option maxRecDepth 100000 in
set_option maxHeartbeats 4000000 in
theorem rX8_full_0 {q : Int32 → zw_H → Prop} {h : zw_H} (K : zwI 1 mX8_full q 4 [(0, .ref 56), (1, .int (0 : Int32)), (2, .int (0 : Int32))] [] h) : zwI 1 mX8_full q 0 [(0, .ref 56)] [] h := by
  refine zw_iconst (v := (0 : Int32)) dX8_full_0 (by decide) rfl ?_
  refine zw_istore_n dX8_full_1 rfl (by decide) rfl rfl ?_
  refine zw_iconst (v := (0 : Int32)) dX8_full_2 (by decide) rfl ?_
  refine zw_istore_n dX8_full_3 rfl (by decide) rfl rfl ?_
  exact zw.sub [2, 1, 0] rfl K

set_option maxRecDepth 100000 in
set_option maxHeartbeats 4000000 in
theorem rX8_full_4 {q : Int32 → zw_H → Prop} {h : zw_H} {v1 v2 : Int32} (K : (((8 : Int32) ≤ v2 → q v1 h) ∧ (¬ (8 : Int32) ≤ v2 → (∃ q1 : Int32 → zw_H → Prop, zcI 0 mX8_held [.ref 56, .int v2] h q1 ∧ (∀ (x1 : Int32) (h1 : zw_H), q1 x1 h1 → ((¬ x1 = (-9 : Int32) → zwI 1 mX8_full q 4 [(0, .ref 56), (1, .int (v1 + (1 : Int32))), (2, .int (v2 + (1 : Int32)))] [] h1) ∧ (x1 = (-9 : Int32) → zwI 1 mX8_full q 4 [(0, .ref 56), (1, .int (v1 + (0 : Int32))), (2, .int (v2 + (1 : Int32)))] [] h1))))))) : zwI 1 mX8_full q 4 [(0, .ref 56), (1, .int v1), (2, .int v2)] [] h := by
  refine zw_iload_n 2 dX8_full_4 rfl rfl rfl ?_
  refine zw_bipush (v := (8 : Int32)) dX8_full_5 (by decide) rfl ?_
  refine zw_icmp_ge (tg := 34) dX8_full_7 (by decide) rfl (fun c => ?_) (fun c => ?_)
  · have K := K.1 c
    refine zw_iload_n 1 dX8_full_34 rfl rfl rfl ?_
    exact zw_ireturn (ty := .int) dX8_full_35 rfl rfl (Nat.le_refl 0) (Nat.le_refl 0) ⟨_, rfl, rfl, K⟩
  · have K := K.2 c
    refine zw_iload_n 1 dX8_full_10 rfl rfl rfl ?_
    refine zw_aload_n 0 dX8_full_11 rfl rfl rfl ?_
    refine zw_iload_n 2 dX8_full_12 rfl rfl rfl ?_
    obtain ⟨q1, ct, K⟩ := K
    refine zw_callV (n := 1) (As := [.int v2]) (rest := [.int v1]) ct my_X8_held rfl rfl k_X8_128 i_X8_held s_X8_held zs_56 rfl dX8_full_13 (by decide) (Nat.le_of_ble_eq_true rfl) (Nat.le_refl 0) (Nat.le_refl 0) rfl (fun r s1 h1 hq => ?_)
    obtain ⟨x1, rfl, rfl, hq⟩ := hq
    have K := K x1 h1 hq
    refine zw.st (st' := [.int x1, .int v1]) rfl ?_
    refine zw_bipush (v := (-9 : Int32)) dX8_full_16 (by decide) rfl ?_
    refine zw_icmp_ne (tg := 25) dX8_full_18 (by decide) rfl (fun c => ?_) (fun c => ?_)
    · have K := K.1 c
      refine zw_iconst (v := (1 : Int32)) dX8_full_25 (by decide) rfl ?_
      refine zw_iadd dX8_full_26 rfl ?_
      refine zw_istore_n dX8_full_27 rfl (by decide) rfl rfl ?_
      refine zw_iinc (v := (v2 + (1 : Int32))) 2 dX8_full_28 rfl rfl (by decide) rfl rfl ?_
      refine zw_goto (np := 4) dX8_full_31 (by decide) ?_
      exact zw.sub [2, 1, 0] rfl K
    · have K := K.2 c
      refine zw_iconst (v := (0 : Int32)) dX8_full_21 (by decide) rfl ?_
      refine zw_goto (np := 26) dX8_full_22 (by decide) ?_
      refine zw_iadd dX8_full_26 rfl ?_
      refine zw_istore_n dX8_full_27 rfl (by decide) rfl rfl ?_
      refine zw_iinc (v := (v2 + (1 : Int32))) 2 dX8_full_28 rfl rfl (by decide) rfl rfl ?_
      refine zw_goto (np := 4) dX8_full_31 (by decide) ?_
      exact zw.sub [2, 1, 0] rfl K

set_option maxRecDepth 100000 in
set_option maxHeartbeats 4000000 in
theorem rX8_told_0 {q : Int32 → zw_H → Prop} {h : zw_H} {v1 : Int32} (K : (((Int32.toInt v1 < 0 ∨ 8 < Int32.toInt v1) → q (-1 : Int32) h) ∧ (v1 = (0 : Int32) → q (h.1 57 0) h) ∧ (v1 = (1 : Int32) → (∃ q1 : Int32 → zw_H → Prop, zcI 1 mX8_full [.ref 56] h q1 ∧ (∀ (x1 : Int32) (h1 : zw_H), q1 x1 h1 → q x1 h1))) ∧ (v1 = (2 : Int32) → q (h.1 57 1) h) ∧ (v1 = (3 : Int32) → q (h.1 57 2) h) ∧ (v1 = (4 : Int32) → (∃ q2 : Int32 → zw_H → Prop, zcI 0 mX8_bits [.int (h.1 57 3)] h q2 ∧ (∀ (x2 : Int32) (h2 : zw_H), q2 x2 h2 → q x2 h2))) ∧ (v1 = (5 : Int32) → (∃ q3 : Int32 → zw_H → Prop, zcI 0 mX8_bits [.int (h.1 57 4)] h q3 ∧ (∀ (x3 : Int32) (h3 : zw_H), q3 x3 h3 → q x3 h3))) ∧ (v1 = (6 : Int32) → q (h.1 57 5) h) ∧ (v1 = (7 : Int32) → q (h.1 56 3) h) ∧ (v1 = (8 : Int32) → q (h.1 56 1) h))) : zwI 2 mX8_told q 0 [(0, .ref 56), (1, .int v1)] [] h := by
  refine zw_iload_n 1 dX8_told_0 rfl rfl rfl ?_
  by_cases cs : Int32.toInt v1 < 0 ∨ 8 < Int32.toInt v1
  · have K := K.1 cs
    refine zw_tabOut (np := 115) dX8_told_1 cs (by decide) ?_
    refine zw_iconst (v := (-1 : Int32)) dX8_told_115 (by decide) rfl ?_
    exact zw_ireturn (ty := .int) dX8_told_116 rfl rfl (Nat.le_refl 0) (Nat.le_refl 0) ⟨_, rfl, rfl, K⟩
  · have K := K.2
    have e : Int32.toInt v1 = 0 ∨ Int32.toInt v1 = 1 ∨ Int32.toInt v1 = 2 ∨ Int32.toInt v1 = 3 ∨ Int32.toInt v1 = 4 ∨ Int32.toInt v1 = 5 ∨ Int32.toInt v1 = 6 ∨ Int32.toInt v1 = 7 ∨ Int32.toInt v1 = 8 := by omega
    rcases e with e | e | e | e | e | e | e | e | e
    · have e2 : v1 = (0 : Int32) := zw_eqI e (by decide)
      have K := K.1 e2
      refine zw_tabIn (np := 52) (off := 51) dX8_told_1 (by rw [e]; decide) (by rw [e]; decide) (by rw [e]; rfl) (by decide) ?_
      refine zw_aload_n 0 dX8_told_52 rfl rfl rfl ?_
      refine zw_getR f_X8_7 dX8_told_53 zs_56 rfl rfl ?_
      refine zw_iconst (v := (0 : Int32)) dX8_told_56 (by decide) rfl ?_
      refine zw_iald 0 dX8_told_57 zs_57 ⟨by decide, by decide⟩ (by decide) rfl ?_
      exact zw_ireturn (ty := .int) dX8_told_58 rfl rfl (Nat.le_refl 0) (Nat.le_refl 0) ⟨_, rfl, rfl, K⟩
    · have e2 : v1 = (1 : Int32) := zw_eqI e (by decide)
      have K := K.2.1 e2
      refine zw_tabIn (np := 59) (off := 58) dX8_told_1 (by rw [e]; decide) (by rw [e]; decide) (by rw [e]; rfl) (by decide) ?_
      refine zw_aload_n 0 dX8_told_59 rfl rfl rfl ?_
      obtain ⟨q1, ct, K⟩ := K
      refine zw_callV (n := 0) (As := []) (rest := []) ct my_X8_full rfl rfl k_X8_227 i_X8_full s_X8_full zs_56 rfl dX8_told_60 (by decide) (Nat.le_of_ble_eq_true rfl) (Nat.le_refl 0) (Nat.le_refl 0) rfl (fun r s1 h1 hq => ?_)
      obtain ⟨x1, rfl, rfl, hq⟩ := hq
      have K := K x1 h1 hq
      refine zw.st (st' := [.int x1]) rfl ?_
      exact zw_ireturn (ty := .int) dX8_told_63 rfl rfl (Nat.le_refl 0) (Nat.le_refl 0) ⟨_, rfl, rfl, K⟩
    · have e2 : v1 = (2 : Int32) := zw_eqI e (by decide)
      have K := K.2.2.1 e2
      refine zw_tabIn (np := 64) (off := 63) dX8_told_1 (by rw [e]; decide) (by rw [e]; decide) (by rw [e]; rfl) (by decide) ?_
      refine zw_aload_n 0 dX8_told_64 rfl rfl rfl ?_
      refine zw_getR f_X8_7 dX8_told_65 zs_56 rfl rfl ?_
      refine zw_iconst (v := (1 : Int32)) dX8_told_68 (by decide) rfl ?_
      refine zw_iald 1 dX8_told_69 zs_57 ⟨by decide, by decide⟩ (by decide) rfl ?_
      exact zw_ireturn (ty := .int) dX8_told_70 rfl rfl (Nat.le_refl 0) (Nat.le_refl 0) ⟨_, rfl, rfl, K⟩
    · have e2 : v1 = (3 : Int32) := zw_eqI e (by decide)
      have K := K.2.2.2.1 e2
      refine zw_tabIn (np := 71) (off := 70) dX8_told_1 (by rw [e]; decide) (by rw [e]; decide) (by rw [e]; rfl) (by decide) ?_
      refine zw_aload_n 0 dX8_told_71 rfl rfl rfl ?_
      refine zw_getR f_X8_7 dX8_told_72 zs_56 rfl rfl ?_
      refine zw_iconst (v := (2 : Int32)) dX8_told_75 (by decide) rfl ?_
      refine zw_iald 2 dX8_told_76 zs_57 ⟨by decide, by decide⟩ (by decide) rfl ?_
      exact zw_ireturn (ty := .int) dX8_told_77 rfl rfl (Nat.le_refl 0) (Nat.le_refl 0) ⟨_, rfl, rfl, K⟩
    · have e2 : v1 = (4 : Int32) := zw_eqI e (by decide)
      have K := K.2.2.2.2.1 e2
      refine zw_tabIn (np := 78) (off := 77) dX8_told_1 (by rw [e]; decide) (by rw [e]; decide) (by rw [e]; rfl) (by decide) ?_
      refine zw_aload_n 0 dX8_told_78 rfl rfl rfl ?_
      refine zw_getR f_X8_7 dX8_told_79 zs_56 rfl rfl ?_
      refine zw_iconst (v := (3 : Int32)) dX8_told_82 (by decide) rfl ?_
      refine zw_iald 3 dX8_told_83 zs_57 ⟨by decide, by decide⟩ (by decide) rfl ?_
      obtain ⟨q2, ct, K⟩ := K
      refine zw_callS (n := 1) (As := [.int (h.1 57 3)]) (rest := []) ct my_X8_bits rfl rfl k_X8_230 t_X8_bits dX8_told_84 (by decide) (Nat.le_of_ble_eq_true rfl) (Nat.le_refl 0) (Nat.le_refl 0) rfl (fun r s1 h2 hq => ?_)
      obtain ⟨x2, rfl, rfl, hq⟩ := hq
      have K := K x2 h2 hq
      refine zw.st (st' := [.int x2]) rfl ?_
      exact zw_ireturn (ty := .int) dX8_told_87 rfl rfl (Nat.le_refl 0) (Nat.le_refl 0) ⟨_, rfl, rfl, K⟩
    · have e2 : v1 = (5 : Int32) := zw_eqI e (by decide)
      have K := K.2.2.2.2.2.1 e2
      refine zw_tabIn (np := 88) (off := 87) dX8_told_1 (by rw [e]; decide) (by rw [e]; decide) (by rw [e]; rfl) (by decide) ?_
      refine zw_aload_n 0 dX8_told_88 rfl rfl rfl ?_
      refine zw_getR f_X8_7 dX8_told_89 zs_56 rfl rfl ?_
      refine zw_iconst (v := (4 : Int32)) dX8_told_92 (by decide) rfl ?_
      refine zw_iald 4 dX8_told_93 zs_57 ⟨by decide, by decide⟩ (by decide) rfl ?_
      obtain ⟨q3, ct, K⟩ := K
      refine zw_callS (n := 1) (As := [.int (h.1 57 4)]) (rest := []) ct my_X8_bits rfl rfl k_X8_230 t_X8_bits dX8_told_94 (by decide) (Nat.le_of_ble_eq_true rfl) (Nat.le_refl 0) (Nat.le_refl 0) rfl (fun r s1 h3 hq => ?_)
      obtain ⟨x3, rfl, rfl, hq⟩ := hq
      have K := K x3 h3 hq
      refine zw.st (st' := [.int x3]) rfl ?_
      exact zw_ireturn (ty := .int) dX8_told_97 rfl rfl (Nat.le_refl 0) (Nat.le_refl 0) ⟨_, rfl, rfl, K⟩
    · have e2 : v1 = (6 : Int32) := zw_eqI e (by decide)
      have K := K.2.2.2.2.2.2.1 e2
      refine zw_tabIn (np := 98) (off := 97) dX8_told_1 (by rw [e]; decide) (by rw [e]; decide) (by rw [e]; rfl) (by decide) ?_
      refine zw_aload_n 0 dX8_told_98 rfl rfl rfl ?_
      refine zw_getR f_X8_7 dX8_told_99 zs_56 rfl rfl ?_
      refine zw_iconst (v := (5 : Int32)) dX8_told_102 (by decide) rfl ?_
      refine zw_iald 5 dX8_told_103 zs_57 ⟨by decide, by decide⟩ (by decide) rfl ?_
      exact zw_ireturn (ty := .int) dX8_told_104 rfl rfl (Nat.le_refl 0) (Nat.le_refl 0) ⟨_, rfl, rfl, K⟩
    · have e2 : v1 = (7 : Int32) := zw_eqI e (by decide)
      have K := K.2.2.2.2.2.2.2.1 e2
      refine zw_tabIn (np := 105) (off := 104) dX8_told_1 (by rw [e]; decide) (by rw [e]; decide) (by rw [e]; rfl) (by decide) ?_
      refine zw_aload_n 0 dX8_told_105 rfl rfl rfl ?_
      refine zw_getI f_X8_112 dX8_told_106 zs_56 rfl rfl ?_
      exact zw_ireturn (ty := .int) dX8_told_109 rfl rfl (Nat.le_refl 0) (Nat.le_refl 0) ⟨_, rfl, rfl, K⟩
    · have e2 : v1 = (8 : Int32) := zw_eqI e (by decide)
      have K := K.2.2.2.2.2.2.2.2 e2
      refine zw_tabIn (np := 110) (off := 109) dX8_told_1 (by rw [e]; decide) (by rw [e]; decide) (by rw [e]; rfl) (by decide) ?_
      refine zw_aload_n 0 dX8_told_110 rfl rfl rfl ?_
      refine zw_getI f_X8_48 dX8_told_111 zs_56 rfl rfl ?_
      exact zw_ireturn (ty := .int) dX8_told_114 rfl rfl (Nat.le_refl 0) (Nat.le_refl 0) ⟨_, rfl, rfl, K⟩

set_option maxRecDepth 100000 in
set_option maxHeartbeats 4000000 in
theorem rX8_digest_0 {q : Int64 → zw_H → Prop} {h : zw_H} (K : zwL 5 mX8_digest q 6 [(0, .ref 56), (1, .long (18446 : Int64)), (3, .int (0 : Int32))] [] h) : zwL 5 mX8_digest q 0 [(0, .ref 56)] [] h := by
  refine zw_ldc2 n_X8_233 dX8_digest_0 rfl ?_
  refine zw_lstore_n dX8_digest_3 rfl (by decide) rfl rfl ?_
  refine zw_iconst (v := (0 : Int32)) dX8_digest_4 (by decide) rfl ?_
  refine zw_istore_n dX8_digest_5 rfl (by decide) rfl rfl ?_
  exact zw.sub [2, 1, 0] rfl K

set_option maxRecDepth 100000 in
set_option maxHeartbeats 4000000 in
theorem rX8_digest_6 {q : Int64 → zw_H → Prop} {h : zw_H} {v3 : Int32} {w1 : Int64} (K : (((8 : Int32) < v3 → zwL 5 mX8_digest q 45 [(0, .ref 56), (1, .long (((31 : Int64) * w1) + (Int32.toInt64 (h.1 56 8)))), (3, .int (1 : Int32))] [] h) ∧ (¬ (8 : Int32) < v3 → (∃ q1 : Int32 → zw_H → Prop, zcI 2 mX8_told [.ref 56, .int v3] h q1 ∧ (∀ (x1 : Int32) (h1 : zw_H), q1 x1 h1 → zwL 5 mX8_digest q 6 [(0, .ref 56), (1, .long (((31 : Int64) * w1) + (Int32.toInt64 x1))), (3, .int (v3 + (1 : Int32)))] [] h1))))) : zwL 5 mX8_digest q 6 [(0, .ref 56), (1, .long w1), (3, .int v3)] [] h := by
  refine zw_iload_n 2 dX8_digest_6 rfl rfl rfl ?_
  refine zw_bipush (v := (8 : Int32)) dX8_digest_7 (by decide) rfl ?_
  refine zw_icmp_gt (tg := 31) dX8_digest_9 (by decide) rfl (fun c => ?_) (fun c => ?_)
  · have K := K.1 c
    refine zw_ldc2 n_X8_235 dX8_digest_31 rfl ?_
    refine zw_lload_n 1 dX8_digest_34 rfl rfl rfl ?_
    refine zw_lmul dX8_digest_35 rfl ?_
    refine zw_aload_n 0 dX8_digest_36 rfl rfl rfl ?_
    refine zw_getI f_X8_59 dX8_digest_37 zs_56 rfl rfl ?_
    refine zw_i2l dX8_digest_40 rfl ?_
    refine zw_ladd dX8_digest_41 rfl ?_
    refine zw_lstore_n dX8_digest_42 rfl (by decide) rfl rfl ?_
    refine zw_iconst (v := (1 : Int32)) dX8_digest_43 (by decide) rfl ?_
    refine zw_istore_n dX8_digest_44 rfl (by decide) rfl rfl ?_
    exact zw.sub [2, 1, 0] rfl K
  · have K := K.2 c
    refine zw_ldc2 n_X8_235 dX8_digest_12 rfl ?_
    refine zw_lload_n 1 dX8_digest_15 rfl rfl rfl ?_
    refine zw_lmul dX8_digest_16 rfl ?_
    refine zw_aload_n 0 dX8_digest_17 rfl rfl rfl ?_
    refine zw_iload_n 2 dX8_digest_18 rfl rfl rfl ?_
    obtain ⟨q1, ct, K⟩ := K
    refine zw_callV (n := 1) (As := [.int v3]) (rest := [.long ((31 : Int64) * w1)]) ct my_X8_told rfl rfl k_X8_237 i_X8_told s_X8_told zs_56 rfl dX8_digest_19 (by decide) (Nat.le_of_ble_eq_true rfl) (Nat.le_refl 0) (Nat.le_refl 0) rfl (fun r s1 h1 hq => ?_)
    obtain ⟨x1, rfl, rfl, hq⟩ := hq
    have K := K x1 h1 hq
    refine zw.st (st' := [.int x1, .long ((31 : Int64) * w1)]) rfl ?_
    refine zw_i2l dX8_digest_22 rfl ?_
    refine zw_ladd dX8_digest_23 rfl ?_
    refine zw_lstore_n dX8_digest_24 rfl (by decide) rfl rfl ?_
    refine zw_iinc (v := (v3 + (1 : Int32))) 2 dX8_digest_25 rfl rfl (by decide) rfl rfl ?_
    refine zw_goto (np := 6) dX8_digest_28 (by decide) ?_
    exact zw.sub [2, 1, 0] rfl K

set_option maxRecDepth 100000 in
set_option maxHeartbeats 4000000 in
theorem rX8_digest_45 {q : Int64 → zw_H → Prop} {h : zw_H} {v3 : Int32} {w1 : Int64} (K : (((6 : Int32) < v3 → zwL 5 mX8_digest q 72 [(0, .ref 56), (1, .long w1), (3, .int (0 : Int32))] [] h) ∧ (¬ (6 : Int32) < v3 → (∃ q1 : Int32 → zw_H → Prop, zcI 1 mX8_manyWith [.ref 56, .int v3] h q1 ∧ (∀ (x1 : Int32) (h1 : zw_H), q1 x1 h1 → zwL 5 mX8_digest q 45 [(0, .ref 56), (1, .long (((31 : Int64) * w1) + (Int32.toInt64 x1))), (3, .int (v3 + (1 : Int32)))] [] h1))))) : zwL 5 mX8_digest q 45 [(0, .ref 56), (1, .long w1), (3, .int v3)] [] h := by
  refine zw_iload_n 2 dX8_digest_45 rfl rfl rfl ?_
  refine zw_bipush (v := (6 : Int32)) dX8_digest_46 (by decide) rfl ?_
  refine zw_icmp_gt (tg := 70) dX8_digest_48 (by decide) rfl (fun c => ?_) (fun c => ?_)
  · have K := K.1 c
    refine zw_iconst (v := (0 : Int32)) dX8_digest_70 (by decide) rfl ?_
    refine zw_istore_n dX8_digest_71 rfl (by decide) rfl rfl ?_
    exact zw.sub [1, 2, 0] rfl K
  · have K := K.2 c
    refine zw_ldc2 n_X8_235 dX8_digest_51 rfl ?_
    refine zw_lload_n 1 dX8_digest_54 rfl rfl rfl ?_
    refine zw_lmul dX8_digest_55 rfl ?_
    refine zw_aload_n 0 dX8_digest_56 rfl rfl rfl ?_
    refine zw_iload_n 2 dX8_digest_57 rfl rfl rfl ?_
    obtain ⟨q1, ct, K⟩ := K
    refine zw_callV (n := 1) (As := [.int v3]) (rest := [.long ((31 : Int64) * w1)]) ct my_X8_manyWith rfl rfl k_X8_166 i_X8_manyWith s_X8_manyWith zs_56 rfl dX8_digest_58 (by decide) (Nat.le_of_ble_eq_true rfl) (Nat.le_refl 0) (Nat.le_refl 0) rfl (fun r s1 h1 hq => ?_)
    obtain ⟨x1, rfl, rfl, hq⟩ := hq
    have K := K x1 h1 hq
    refine zw.st (st' := [.int x1, .long ((31 : Int64) * w1)]) rfl ?_
    refine zw_i2l dX8_digest_61 rfl ?_
    refine zw_ladd dX8_digest_62 rfl ?_
    refine zw_lstore_n dX8_digest_63 rfl (by decide) rfl rfl ?_
    refine zw_iinc (v := (v3 + (1 : Int32))) 2 dX8_digest_64 rfl rfl (by decide) rfl rfl ?_
    refine zw_goto (np := 45) dX8_digest_67 (by decide) ?_
    exact zw.sub [2, 1, 0] rfl K

set_option maxRecDepth 100000 in
set_option maxHeartbeats 4000000 in
theorem rX8_digest_72 {q : Int64 → zw_H → Prop} {h : zw_H} {v3 : Int32} {w1 : Int64} (K : (((8 : Int32) ≤ v3 → q w1 h) ∧ (¬ (8 : Int32) ≤ v3 → (∃ q1 : Int32 → zw_H → Prop, zcI 0 mX8_held [.ref 56, .int v3] h q1 ∧ (∀ (x1 : Int32) (h1 : zw_H), q1 x1 h1 → ((¬ x1 = (-9 : Int32) → (∃ j2 : Nat, x1 = nI j2 ∧ j2 < 203 ∧ zwL 5 mX8_digest q 123 [(0, .ref 56), (1, .long (((31 : Int64) * w1) + (Int32.toInt64 (h1.1 60 j2)))), (3, .int v3), (4, .int x1), (5, .int (0 : Int32))] [] h1)) ∧ (x1 = (-9 : Int32) → zwL 5 mX8_digest q 72 [(0, .ref 56), (1, .long (((31 : Int64) * w1) + (-9 : Int64))), (3, .int (v3 + (1 : Int32)))] [] h1))))))) : zwL 5 mX8_digest q 72 [(0, .ref 56), (1, .long w1), (3, .int v3)] [] h := by
  refine zw_iload_n 2 dX8_digest_72 rfl rfl rfl ?_
  refine zw_bipush (v := (8 : Int32)) dX8_digest_73 (by decide) rfl ?_
  refine zw_icmp_ge (tg := 205) dX8_digest_75 (by decide) rfl (fun c => ?_) (fun c => ?_)
  · have K := K.1 c
    refine zw_lload_n 1 dX8_digest_205 rfl rfl rfl ?_
    exact zw_lreturn dX8_digest_206 rfl (Nat.le_refl 0) (Nat.le_refl 0) ⟨_, rfl, rfl, K⟩
  · have K := K.2 c
    refine zw_aload_n 0 dX8_digest_78 rfl rfl rfl ?_
    refine zw_iload_n 2 dX8_digest_79 rfl rfl rfl ?_
    obtain ⟨q1, ct, K⟩ := K
    refine zw_callV (n := 1) (As := [.int v3]) (rest := []) ct my_X8_held rfl rfl k_X8_128 i_X8_held s_X8_held zs_56 rfl dX8_digest_80 (by decide) (Nat.le_of_ble_eq_true rfl) (Nat.le_refl 0) (Nat.le_refl 0) rfl (fun r s1 h1 hq => ?_)
    obtain ⟨x1, rfl, rfl, hq⟩ := hq
    have K := K x1 h1 hq
    refine zw.st (st' := [.int x1]) rfl ?_
    refine zw_istore dX8_digest_83 (by decide) rfl rfl ?_
    refine zw_iload 0 dX8_digest_85 rfl rfl ?_
    refine zw_bipush (v := (-9 : Int32)) dX8_digest_87 (by decide) rfl ?_
    refine zw_icmp_ne (tg := 105) dX8_digest_89 (by decide) rfl (fun c => ?_) (fun c => ?_)
    · have K := K.1 c
      refine zw_ldc2 n_X8_235 dX8_digest_105 rfl ?_
      refine zw_lload_n 2 dX8_digest_108 rfl rfl rfl ?_
      refine zw_lmul dX8_digest_109 rfl ?_
      refine zw_aload_n 1 dX8_digest_110 rfl rfl rfl ?_
      refine zw_getR f_X8_19 dX8_digest_111 zs_56 rfl rfl ?_
      refine zw_iload 0 dX8_digest_114 rfl rfl ?_
      obtain ⟨j2, hj2, hn2, K⟩ := K
      refine zw_iald j2 dX8_digest_116 zs_60 ⟨hj2, hn2⟩ (by decide) rfl ?_
      refine zw_i2l dX8_digest_117 rfl ?_
      refine zw_ladd dX8_digest_118 rfl ?_
      refine zw_lstore_n dX8_digest_119 rfl (by decide) rfl rfl ?_
      refine zw_iconst (v := (0 : Int32)) dX8_digest_120 (by decide) rfl ?_
      refine zw_istore dX8_digest_121 (by decide) rfl rfl ?_
      exact zw.sub [3, 1, 4, 2, 0] rfl K
    · have K := K.2 c
      refine zw_ldc2 n_X8_235 dX8_digest_92 rfl ?_
      refine zw_lload_n 2 dX8_digest_95 rfl rfl rfl ?_
      refine zw_lmul dX8_digest_96 rfl ?_
      refine zw_ldc2 n_X8_240 dX8_digest_97 rfl ?_
      refine zw_ladd dX8_digest_100 rfl ?_
      refine zw_lstore_n dX8_digest_101 rfl (by decide) rfl rfl ?_
      refine zw_goto (np := 199) dX8_digest_102 (by decide) ?_
      refine zw_iinc (v := (v3 + (1 : Int32))) 3 dX8_digest_199 rfl rfl (by decide) rfl rfl ?_
      refine zw_goto (np := 72) dX8_digest_202 (by decide) ?_
      exact zw.sub [3, 1, 0] rfl K

set_option maxRecDepth 100000 in
set_option maxHeartbeats 4000000 in
theorem rX8_digest_123 {q : Int64 → zw_H → Prop} {h : zw_H} {v3 v4 v5 : Int32} {w1 : Int64} (K : (((h.1 57 0) ≤ v5 → (∃ q1 : Int32 → zw_H → Prop, zcI 3 mX8_reason [.ref 56, .int v4] h q1 ∧ (∀ (x1 : Int32) (h1 : zw_H), q1 x1 h1 → (∃ q2 : Int32 → zw_H → Prop, zcI 4 mX8_placeOf [.ref 56, .int v4] h1 q2 ∧ (∀ (x2 : Int32) (h2 : zw_H), q2 x2 h2 → (∃ j3 : Nat, v4 = nI j3 ∧ j3 < 203 ∧ zwL 5 mX8_digest q 72 [(0, .ref 56), (1, .long (((31 : Int64) * (((31 : Int64) * (((31 : Int64) * w1) + (Int32.toInt64 x1))) + (Int32.toInt64 x2))) + (Int32.toInt64 (h2.1 61 j3)))), (3, .int (v3 + (1 : Int32)))] [] h2)))))) ∧ (¬ (h.1 57 0) ≤ v5 → (∃ q4 : Int32 → zw_H → Prop, zcI 0 mX8_at [.ref 56, .int v4, .int v5] h q4 ∧ (∀ (x4 : Int32) (h4 : zw_H), q4 x4 h4 → zwL 5 mX8_digest q 123 [(0, .ref 56), (1, .long (((31 : Int64) * w1) + (Int32.toInt64 x4))), (3, .int v3), (4, .int v4), (5, .int (v5 + (1 : Int32)))] [] h4))))) : zwL 5 mX8_digest q 123 [(0, .ref 56), (1, .long w1), (3, .int v3), (4, .int v4), (5, .int v5)] [] h := by
  refine zw_iload 4 dX8_digest_123 rfl rfl ?_
  refine zw_aload_n 0 dX8_digest_125 rfl rfl rfl ?_
  refine zw_getR f_X8_7 dX8_digest_126 zs_56 rfl rfl ?_
  refine zw_iconst (v := (0 : Int32)) dX8_digest_129 (by decide) rfl ?_
  refine zw_iald 0 dX8_digest_130 zs_57 ⟨by decide, by decide⟩ (by decide) rfl ?_
  refine zw_icmp_ge (tg := 156) dX8_digest_131 (by decide) rfl (fun c => ?_) (fun c => ?_)
  · have K := K.1 c
    refine zw_ldc2 n_X8_235 dX8_digest_156 rfl ?_
    refine zw_lload_n 1 dX8_digest_159 rfl rfl rfl ?_
    refine zw_lmul dX8_digest_160 rfl ?_
    refine zw_aload_n 0 dX8_digest_161 rfl rfl rfl ?_
    refine zw_iload 3 dX8_digest_162 rfl rfl ?_
    obtain ⟨q1, ct, K⟩ := K
    refine zw_callV (n := 1) (As := [.int v4]) (rest := [.long ((31 : Int64) * w1)]) ct my_X8_reason rfl rfl k_X8_62 i_X8_reason s_X8_reason zs_56 rfl dX8_digest_164 (by decide) (Nat.le_of_ble_eq_true rfl) (Nat.le_refl 0) (Nat.le_refl 0) rfl (fun r s1 h1 hq => ?_)
    obtain ⟨x1, rfl, rfl, hq⟩ := hq
    have K := K x1 h1 hq
    refine zw.st (st' := [.int x1, .long ((31 : Int64) * w1)]) rfl ?_
    refine zw_i2l dX8_digest_167 rfl ?_
    refine zw_ladd dX8_digest_168 rfl ?_
    refine zw_lstore_n dX8_digest_169 rfl (by decide) rfl rfl ?_
    refine zw_ldc2 n_X8_235 dX8_digest_170 rfl ?_
    refine zw_lload_n 0 dX8_digest_173 rfl rfl rfl ?_
    refine zw_lmul dX8_digest_174 rfl ?_
    refine zw_aload_n 1 dX8_digest_175 rfl rfl rfl ?_
    refine zw_iload 3 dX8_digest_176 rfl rfl ?_
    obtain ⟨q2, ct, K⟩ := K
    refine zw_callV (n := 1) (As := [.int v4]) (rest := [.long ((31 : Int64) * (((31 : Int64) * w1) + (Int32.toInt64 x1)))]) ct my_X8_placeOf rfl rfl k_X8_163 i_X8_placeOf s_X8_placeOf zs_56 rfl dX8_digest_178 (by decide) (Nat.le_of_ble_eq_true rfl) (Nat.le_refl 0) (Nat.le_refl 0) rfl (fun r s1 h2 hq => ?_)
    obtain ⟨x2, rfl, rfl, hq⟩ := hq
    have K := K x2 h2 hq
    refine zw.st (st' := [.int x2, .long ((31 : Int64) * (((31 : Int64) * w1) + (Int32.toInt64 x1)))]) rfl ?_
    refine zw_i2l dX8_digest_181 rfl ?_
    refine zw_ladd dX8_digest_182 rfl ?_
    refine zw_lstore_n dX8_digest_183 rfl (by decide) rfl rfl ?_
    refine zw_ldc2 n_X8_235 dX8_digest_184 rfl ?_
    refine zw_lload_n 0 dX8_digest_187 rfl rfl rfl ?_
    refine zw_lmul dX8_digest_188 rfl ?_
    refine zw_aload_n 1 dX8_digest_189 rfl rfl rfl ?_
    refine zw_getR f_X8_22 dX8_digest_190 zs_56 rfl rfl ?_
    refine zw_iload 3 dX8_digest_193 rfl rfl ?_
    obtain ⟨j3, hj3, hn3, K⟩ := K
    refine zw_iald j3 dX8_digest_195 zs_61 ⟨hj3, hn3⟩ (by decide) rfl ?_
    refine zw_i2l dX8_digest_196 rfl ?_
    refine zw_ladd dX8_digest_197 rfl ?_
    refine zw_lstore_n dX8_digest_198 rfl (by decide) rfl rfl ?_
    refine zw_iinc (v := (v3 + (1 : Int32))) 2 dX8_digest_199 rfl rfl (by decide) rfl rfl ?_
    refine zw_goto (np := 72) dX8_digest_202 (by decide) ?_
    exact zw.sub [2, 1, 0] rfl K
  · have K := K.2 c
    refine zw_ldc2 n_X8_235 dX8_digest_134 rfl ?_
    refine zw_lload_n 1 dX8_digest_137 rfl rfl rfl ?_
    refine zw_lmul dX8_digest_138 rfl ?_
    refine zw_aload_n 0 dX8_digest_139 rfl rfl rfl ?_
    refine zw_iload 3 dX8_digest_140 rfl rfl ?_
    refine zw_iload 4 dX8_digest_142 rfl rfl ?_
    obtain ⟨q4, ct, K⟩ := K
    refine zw_callV (n := 2) (As := [.int v4, .int v5]) (rest := [.long ((31 : Int64) * w1)]) ct my_X8_at rfl rfl k_X8_65 i_X8_at s_X8_at zs_56 rfl dX8_digest_144 (by decide) (Nat.le_of_ble_eq_true rfl) (Nat.le_refl 0) (Nat.le_refl 0) rfl (fun r s1 h4 hq => ?_)
    obtain ⟨x4, rfl, rfl, hq⟩ := hq
    have K := K x4 h4 hq
    refine zw.st (st' := [.int x4, .long ((31 : Int64) * w1)]) rfl ?_
    refine zw_i2l dX8_digest_147 rfl ?_
    refine zw_ladd dX8_digest_148 rfl ?_
    refine zw_lstore_n dX8_digest_149 rfl (by decide) rfl rfl ?_
    refine zw_iinc (v := (v5 + (1 : Int32))) 4 dX8_digest_150 rfl rfl (by decide) rfl rfl ?_
    refine zw_goto (np := 123) dX8_digest_153 (by decide) ?_
    exact zw.sub [2, 1, 3, 4, 0] rfl K
