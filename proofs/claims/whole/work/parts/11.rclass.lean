set_option maxRecDepth 100000 in
set_option maxHeartbeats 4000000 in
theorem rX7_setSize_0 {q : Int32 → zw_H → Prop} {h : zw_H} {v1 : Int32} (K : ((v1 < (1 : Int32) → q (-1 : Int32) h) ∧ (¬ v1 < (1 : Int32) → ((v1 ≤ (6 : Int32) → (∃ q1 : zw_H → Prop, zcV 1 mX1_remember [.ref 3, .ref 1] h q1 ∧ (∀ h1 : zw_H, q1 h1 → (∃ q2 : zw_H → Prop, zcV 0 mX5_reset [.ref 1, .int v1] h1 q2 ∧ (∀ h2 : zw_H, q2 h2 → (∃ q3 : zw_H → Prop, zcV 5 mX7_refresh [.ref 0] h2 q3 ∧ (∀ h3 : zw_H, q3 h3 → q (h.1 1 1) h3))))))) ∧ (¬ v1 ≤ (6 : Int32) → q (-1 : Int32) h))))) : zwI 6 mX7_setSize q 0 [(0, .ref 0), (1, .int v1)] [] h := by
  refine zw_iload_n 1 dX7_setSize_0 rfl rfl rfl ?_
  refine zw_iconst (v := (1 : Int32)) dX7_setSize_1 (by decide) rfl ?_
  refine zw_icmp_lt (tg := 11) dX7_setSize_2 (by decide) rfl (fun c => ?_) (fun c => ?_)
  · have K := K.1 c
    refine zw_iconst (v := (-1 : Int32)) dX7_setSize_11 (by decide) rfl ?_
    exact zw_ireturn (ty := .int) dX7_setSize_12 rfl rfl (Nat.le_refl 0) (Nat.le_refl 0) ⟨_, rfl, rfl, K⟩
  · have K := K.2 c
    refine zw_iload_n 1 dX7_setSize_5 rfl rfl rfl ?_
    refine zw_bipush (v := (6 : Int32)) dX7_setSize_6 (by decide) rfl ?_
    refine zw_icmp_le (tg := 13) dX7_setSize_8 (by decide) rfl (fun c => ?_) (fun c => ?_)
    · have K := K.1 c
      refine zw_aload_n 0 dX7_setSize_13 rfl rfl rfl ?_
      refine zw_getR f_X7_10 dX7_setSize_14 zs_0 rfl rfl ?_
      refine zw_getI f_X7_75 dX7_setSize_17 zs_1 rfl rfl ?_
      refine zw_istore_n dX7_setSize_20 rfl (by decide) rfl rfl ?_
      refine zw_aload_n 1 dX7_setSize_21 rfl rfl rfl ?_
      refine zw_getR f_X7_19 dX7_setSize_22 zs_0 rfl rfl ?_
      refine zw_aload_n 1 dX7_setSize_25 rfl rfl rfl ?_
      refine zw_getR f_X7_10 dX7_setSize_26 zs_0 rfl rfl ?_
      obtain ⟨q1, ct, K⟩ := K
      refine zw_callV (n := 1) (As := [.ref 1]) (rest := []) ct my_X1_remember rfl rfl k_X7_79 i_X1_remember s_X1_remember zs_3 rfl dX7_setSize_29 (by decide) (Nat.le_of_ble_eq_true rfl) (Nat.le_refl 0) (Nat.le_refl 0) rfl (fun r s1 h1 hq => ?_)
      obtain ⟨rfl, rfl, hq⟩ := hq
      have K := K h1 hq
      refine zw.st (st' := []) rfl ?_
      refine zw_aload_n 1 dX7_setSize_32 rfl rfl rfl ?_
      refine zw_getR f_X7_10 dX7_setSize_33 zs_0 rfl rfl ?_
      refine zw_iload_n 2 dX7_setSize_36 rfl rfl rfl ?_
      obtain ⟨q2, ct, K⟩ := K
      refine zw_callV (n := 1) (As := [.int v1]) (rest := []) ct my_X5_reset rfl rfl k_X7_68 i_X5_reset s_X5_reset zs_1 rfl dX7_setSize_37 (by decide) (Nat.le_of_ble_eq_true rfl) (Nat.le_refl 0) (Nat.le_refl 0) rfl (fun r s1 h2 hq => ?_)
      obtain ⟨rfl, rfl, hq⟩ := hq
      have K := K h2 hq
      refine zw.st (st' := []) rfl ?_
      refine zw_aload_n 1 dX7_setSize_40 rfl rfl rfl ?_
      obtain ⟨q3, ct, K⟩ := K
      refine zw_callV (n := 0) (As := []) (rest := []) ct my_X7_refresh rfl rfl k_X7_72 i_X7_refresh s_X7_refresh zs_0 rfl dX7_setSize_41 (by decide) (Nat.le_of_ble_eq_true rfl) (Nat.le_refl 0) (Nat.le_refl 0) rfl (fun r s1 h3 hq => ?_)
      obtain ⟨rfl, rfl, hq⟩ := hq
      have K := K h3 hq
      refine zw.st (st' := []) rfl ?_
      refine zw_iload_n 0 dX7_setSize_44 rfl rfl rfl ?_
      exact zw_ireturn (ty := .int) dX7_setSize_45 rfl rfl (Nat.le_refl 0) (Nat.le_refl 0) ⟨_, rfl, rfl, K⟩
    · have K := K.2 c
      refine zw_iconst (v := (-1 : Int32)) dX7_setSize_11 (by decide) rfl ?_
      exact zw_ireturn (ty := .int) dX7_setSize_12 rfl rfl (Nat.le_refl 0) (Nat.le_refl 0) ⟨_, rfl, rfl, K⟩

set_option maxRecDepth 100000 in
set_option maxHeartbeats 4000000 in
theorem rX7_allowSize_0 {q : Int32 → zw_H → Prop} {h : zw_H} {v1 v2 : Int32} (K : ((v1 < (1 : Int32) → q (-1 : Int32) h) ∧ (¬ v1 < (1 : Int32) → ((v1 ≤ (6 : Int32) → (∃ q1 : zw_H → Prop, zcV 1 mX1_remember [.ref 3, .ref 1] h q1 ∧ (∀ h1 : zw_H, q1 h1 → (∃ q2 : Int32 → zw_H → Prop, zcI 0 mX7_withBits [.int (h1.1 1 2), .int ((1 : Int32) <<< (v1 &&& 31)), .int v2] h1 q2 ∧ (∀ (x2 : Int32) (h2 : zw_H), q2 x2 h2 → (∀ h3 : zw_H, h3 = zw_sI h2 1 2 x2 → (∃ q4 : zw_H → Prop, zcV 5 mX7_refresh [.ref 0] h3 q4 ∧ (∀ h4 : zw_H, q4 h4 → q (((h.1 1 2) >>> (v1 &&& 31)) &&& (1 : Int32)) h4)))))))) ∧ (¬ v1 ≤ (6 : Int32) → q (-1 : Int32) h))))) : zwI 6 mX7_allowSize q 0 [(0, .ref 0), (1, .int v1), (2, .int v2)] [] h := by
  refine zw_iload_n 1 dX7_allowSize_0 rfl rfl rfl ?_
  refine zw_iconst (v := (1 : Int32)) dX7_allowSize_1 (by decide) rfl ?_
  refine zw_icmp_lt (tg := 11) dX7_allowSize_2 (by decide) rfl (fun c => ?_) (fun c => ?_)
  · have K := K.1 c
    refine zw_iconst (v := (-1 : Int32)) dX7_allowSize_11 (by decide) rfl ?_
    exact zw_ireturn (ty := .int) dX7_allowSize_12 rfl rfl (Nat.le_refl 0) (Nat.le_refl 0) ⟨_, rfl, rfl, K⟩
  · have K := K.2 c
    refine zw_iload_n 1 dX7_allowSize_5 rfl rfl rfl ?_
    refine zw_bipush (v := (6 : Int32)) dX7_allowSize_6 (by decide) rfl ?_
    refine zw_icmp_le (tg := 13) dX7_allowSize_8 (by decide) rfl (fun c => ?_) (fun c => ?_)
    · have K := K.1 c
      refine zw_aload_n 0 dX7_allowSize_13 rfl rfl rfl ?_
      refine zw_getR f_X7_10 dX7_allowSize_14 zs_0 rfl rfl ?_
      refine zw_getI f_X7_83 dX7_allowSize_17 zs_1 rfl rfl ?_
      refine zw_iload_n 1 dX7_allowSize_20 rfl rfl rfl ?_
      refine zw_ishr dX7_allowSize_21 rfl ?_
      refine zw_iconst (v := (1 : Int32)) dX7_allowSize_22 (by decide) rfl ?_
      refine zw_iand dX7_allowSize_23 rfl ?_
      refine zw_istore_n dX7_allowSize_24 rfl (by decide) rfl rfl ?_
      refine zw_aload_n 1 dX7_allowSize_25 rfl rfl rfl ?_
      refine zw_getR f_X7_19 dX7_allowSize_26 zs_0 rfl rfl ?_
      refine zw_aload_n 1 dX7_allowSize_29 rfl rfl rfl ?_
      refine zw_getR f_X7_10 dX7_allowSize_30 zs_0 rfl rfl ?_
      obtain ⟨q1, ct, K⟩ := K
      refine zw_callV (n := 1) (As := [.ref 1]) (rest := []) ct my_X1_remember rfl rfl k_X7_79 i_X1_remember s_X1_remember zs_3 rfl dX7_allowSize_33 (by decide) (Nat.le_of_ble_eq_true rfl) (Nat.le_refl 0) (Nat.le_refl 0) rfl (fun r s1 h1 hq => ?_)
      obtain ⟨rfl, rfl, hq⟩ := hq
      have K := K h1 hq
      refine zw.st (st' := []) rfl ?_
      refine zw_aload_n 1 dX7_allowSize_36 rfl rfl rfl ?_
      refine zw_getR f_X7_10 dX7_allowSize_37 zs_0 rfl rfl ?_
      refine zw_aload_n 1 dX7_allowSize_40 rfl rfl rfl ?_
      refine zw_getR f_X7_10 dX7_allowSize_41 zs_0 rfl rfl ?_
      refine zw_getI f_X7_83 dX7_allowSize_44 zs_1 rfl rfl ?_
      refine zw_iconst (v := (1 : Int32)) dX7_allowSize_47 (by decide) rfl ?_
      refine zw_iload_n 2 dX7_allowSize_48 rfl rfl rfl ?_
      refine zw_ishl dX7_allowSize_49 rfl ?_
      refine zw_iload_n 3 dX7_allowSize_50 rfl rfl rfl ?_
      obtain ⟨q2, ct, K⟩ := K
      refine zw_callS (n := 3) (As := [.int (h1.1 1 2), .int ((1 : Int32) <<< (v1 &&& 31)), .int v2]) (rest := [.ref 1]) ct my_X7_withBits rfl rfl k_X7_86 t_X7_withBits dX7_allowSize_51 (by decide) (Nat.le_of_ble_eq_true rfl) (Nat.le_refl 0) (Nat.le_refl 0) rfl (fun r s1 h2 hq => ?_)
      obtain ⟨x2, rfl, rfl, hq⟩ := hq
      have K := K x2 h2 hq
      refine zw.st (st' := [.int x2, .ref 1]) rfl ?_
      refine zw_putI f_X7_83 cl_X5 rfl ⟨rfl, rfl⟩ dX7_allowSize_54 zs_1 rfl rfl ?_
      generalize e3 : zw_sI h2 1 2 x2 = h3
      have K := K h3 e3.symm
      refine zw_aload_n 1 dX7_allowSize_57 rfl rfl rfl ?_
      obtain ⟨q4, ct, K⟩ := K
      refine zw_callV (n := 0) (As := []) (rest := []) ct my_X7_refresh rfl rfl k_X7_72 i_X7_refresh s_X7_refresh zs_0 rfl dX7_allowSize_58 (by decide) (Nat.le_of_ble_eq_true rfl) (Nat.le_refl 0) (Nat.le_refl 0) rfl (fun r s1 h4 hq => ?_)
      obtain ⟨rfl, rfl, hq⟩ := hq
      have K := K h4 hq
      refine zw.st (st' := []) rfl ?_
      refine zw_iload_n 0 dX7_allowSize_61 rfl rfl rfl ?_
      exact zw_ireturn (ty := .int) dX7_allowSize_62 rfl rfl (Nat.le_refl 0) (Nat.le_refl 0) ⟨_, rfl, rfl, K⟩
    · have K := K.2 c
      refine zw_iconst (v := (-1 : Int32)) dX7_allowSize_11 (by decide) rfl ?_
      exact zw_ireturn (ty := .int) dX7_allowSize_12 rfl rfl (Nat.le_refl 0) (Nat.le_refl 0) ⟨_, rfl, rfl, K⟩

set_option maxRecDepth 100000 in
set_option maxHeartbeats 4000000 in
theorem rX7_allowNumber_0 {q : Int32 → zw_H → Prop} {h : zw_H} {v1 v2 : Int32} (K : ((v1 < (1 : Int32) → q (-1 : Int32) h) ∧ (¬ v1 < (1 : Int32) → ((v1 ≤ (6 : Int32) → (∃ q1 : zw_H → Prop, zcV 1 mX1_remember [.ref 3, .ref 1] h q1 ∧ (∀ h1 : zw_H, q1 h1 → (∃ q2 : Int32 → zw_H → Prop, zcI 0 mX7_withBits [.int (h1.1 1 3), .int ((1 : Int32) <<< (v1 &&& 31)), .int v2] h1 q2 ∧ (∀ (x2 : Int32) (h2 : zw_H), q2 x2 h2 → (∀ h3 : zw_H, h3 = zw_sI h2 1 3 x2 → (∃ q4 : zw_H → Prop, zcV 5 mX7_refresh [.ref 0] h3 q4 ∧ (∀ h4 : zw_H, q4 h4 → q (((h.1 1 3) >>> (v1 &&& 31)) &&& (1 : Int32)) h4)))))))) ∧ (¬ v1 ≤ (6 : Int32) → q (-1 : Int32) h))))) : zwI 6 mX7_allowNumber q 0 [(0, .ref 0), (1, .int v1), (2, .int v2)] [] h := by
  refine zw_iload_n 1 dX7_allowNumber_0 rfl rfl rfl ?_
  refine zw_iconst (v := (1 : Int32)) dX7_allowNumber_1 (by decide) rfl ?_
  refine zw_icmp_lt (tg := 11) dX7_allowNumber_2 (by decide) rfl (fun c => ?_) (fun c => ?_)
  · have K := K.1 c
    refine zw_iconst (v := (-1 : Int32)) dX7_allowNumber_11 (by decide) rfl ?_
    exact zw_ireturn (ty := .int) dX7_allowNumber_12 rfl rfl (Nat.le_refl 0) (Nat.le_refl 0) ⟨_, rfl, rfl, K⟩
  · have K := K.2 c
    refine zw_iload_n 1 dX7_allowNumber_5 rfl rfl rfl ?_
    refine zw_bipush (v := (6 : Int32)) dX7_allowNumber_6 (by decide) rfl ?_
    refine zw_icmp_le (tg := 13) dX7_allowNumber_8 (by decide) rfl (fun c => ?_) (fun c => ?_)
    · have K := K.1 c
      refine zw_aload_n 0 dX7_allowNumber_13 rfl rfl rfl ?_
      refine zw_getR f_X7_10 dX7_allowNumber_14 zs_0 rfl rfl ?_
      refine zw_getI f_X7_90 dX7_allowNumber_17 zs_1 rfl rfl ?_
      refine zw_iload_n 1 dX7_allowNumber_20 rfl rfl rfl ?_
      refine zw_ishr dX7_allowNumber_21 rfl ?_
      refine zw_iconst (v := (1 : Int32)) dX7_allowNumber_22 (by decide) rfl ?_
      refine zw_iand dX7_allowNumber_23 rfl ?_
      refine zw_istore_n dX7_allowNumber_24 rfl (by decide) rfl rfl ?_
      refine zw_aload_n 1 dX7_allowNumber_25 rfl rfl rfl ?_
      refine zw_getR f_X7_19 dX7_allowNumber_26 zs_0 rfl rfl ?_
      refine zw_aload_n 1 dX7_allowNumber_29 rfl rfl rfl ?_
      refine zw_getR f_X7_10 dX7_allowNumber_30 zs_0 rfl rfl ?_
      obtain ⟨q1, ct, K⟩ := K
      refine zw_callV (n := 1) (As := [.ref 1]) (rest := []) ct my_X1_remember rfl rfl k_X7_79 i_X1_remember s_X1_remember zs_3 rfl dX7_allowNumber_33 (by decide) (Nat.le_of_ble_eq_true rfl) (Nat.le_refl 0) (Nat.le_refl 0) rfl (fun r s1 h1 hq => ?_)
      obtain ⟨rfl, rfl, hq⟩ := hq
      have K := K h1 hq
      refine zw.st (st' := []) rfl ?_
      refine zw_aload_n 1 dX7_allowNumber_36 rfl rfl rfl ?_
      refine zw_getR f_X7_10 dX7_allowNumber_37 zs_0 rfl rfl ?_
      refine zw_aload_n 1 dX7_allowNumber_40 rfl rfl rfl ?_
      refine zw_getR f_X7_10 dX7_allowNumber_41 zs_0 rfl rfl ?_
      refine zw_getI f_X7_90 dX7_allowNumber_44 zs_1 rfl rfl ?_
      refine zw_iconst (v := (1 : Int32)) dX7_allowNumber_47 (by decide) rfl ?_
      refine zw_iload_n 2 dX7_allowNumber_48 rfl rfl rfl ?_
      refine zw_ishl dX7_allowNumber_49 rfl ?_
      refine zw_iload_n 3 dX7_allowNumber_50 rfl rfl rfl ?_
      obtain ⟨q2, ct, K⟩ := K
      refine zw_callS (n := 3) (As := [.int (h1.1 1 3), .int ((1 : Int32) <<< (v1 &&& 31)), .int v2]) (rest := [.ref 1]) ct my_X7_withBits rfl rfl k_X7_86 t_X7_withBits dX7_allowNumber_51 (by decide) (Nat.le_of_ble_eq_true rfl) (Nat.le_refl 0) (Nat.le_refl 0) rfl (fun r s1 h2 hq => ?_)
      obtain ⟨x2, rfl, rfl, hq⟩ := hq
      have K := K x2 h2 hq
      refine zw.st (st' := [.int x2, .ref 1]) rfl ?_
      refine zw_putI f_X7_90 cl_X5 rfl ⟨rfl, rfl⟩ dX7_allowNumber_54 zs_1 rfl rfl ?_
      generalize e3 : zw_sI h2 1 3 x2 = h3
      have K := K h3 e3.symm
      refine zw_aload_n 1 dX7_allowNumber_57 rfl rfl rfl ?_
      obtain ⟨q4, ct, K⟩ := K
      refine zw_callV (n := 0) (As := []) (rest := []) ct my_X7_refresh rfl rfl k_X7_72 i_X7_refresh s_X7_refresh zs_0 rfl dX7_allowNumber_58 (by decide) (Nat.le_of_ble_eq_true rfl) (Nat.le_refl 0) (Nat.le_refl 0) rfl (fun r s1 h4 hq => ?_)
      obtain ⟨rfl, rfl, hq⟩ := hq
      have K := K h4 hq
      refine zw.st (st' := []) rfl ?_
      refine zw_iload_n 0 dX7_allowNumber_61 rfl rfl rfl ?_
      exact zw_ireturn (ty := .int) dX7_allowNumber_62 rfl rfl (Nat.le_refl 0) (Nat.le_refl 0) ⟨_, rfl, rfl, K⟩
    · have K := K.2 c
      refine zw_iconst (v := (-1 : Int32)) dX7_allowNumber_11 (by decide) rfl ?_
      exact zw_ireturn (ty := .int) dX7_allowNumber_12 rfl rfl (Nat.le_refl 0) (Nat.le_refl 0) ⟨_, rfl, rfl, K⟩

set_option maxRecDepth 100000 in
set_option maxHeartbeats 4000000 in
theorem rX7_apart_0 {q : Int32 → zw_H → Prop} {h : zw_H} {v1 v2 v3 : Int32} (K : (∃ q1 : Int32 → zw_H → Prop, zcI 0 mX7_isElement [.ref 0, .int v1] h q1 ∧ (∀ (x1 : Int32) (h1 : zw_H), q1 x1 h1 → ((x1 = 0 → q (-1 : Int32) h1) ∧ (¬ x1 = 0 → (∃ q2 : Int32 → zw_H → Prop, zcI 0 mX7_isElement [.ref 0, .int v2] h1 q2 ∧ (∀ (x2 : Int32) (h2 : zw_H), q2 x2 h2 → ((x2 = 0 → q (-1 : Int32) h2) ∧ (¬ x2 = 0 → ((¬ v1 = v2 → (∃ q3 : Int32 → zw_H → Prop, zcI 0 mX7_pairBit [.int v1, .int v2] h2 q3 ∧ (∀ (x3 : Int32) (h3 : zw_H), q3 x3 h3 → ((((h3.1 1 4) &&& x3) = 0 → (∃ q4 : zw_H → Prop, zcV 1 mX1_remember [.ref 3, .ref 1] h3 q4 ∧ (∀ h4 : zw_H, q4 h4 → (∃ q5 : Int32 → zw_H → Prop, zcI 0 mX7_withBits [.int (h4.1 1 4), .int x3, .int v3] h4 q5 ∧ (∀ (x5 : Int32) (h5 : zw_H), q5 x5 h5 → (∀ h6 : zw_H, h6 = zw_sI h5 1 4 x5 → (∃ q7 : zw_H → Prop, zcV 5 mX7_refresh [.ref 0] h6 q7 ∧ (∀ h7 : zw_H, q7 h7 → q (0 : Int32) h7)))))))) ∧ (¬ ((h3.1 1 4) &&& x3) = 0 → (∃ q8 : zw_H → Prop, zcV 1 mX1_remember [.ref 3, .ref 1] h3 q8 ∧ (∀ h8 : zw_H, q8 h8 → (∃ q9 : Int32 → zw_H → Prop, zcI 0 mX7_withBits [.int (h8.1 1 4), .int x3, .int v3] h8 q9 ∧ (∀ (x9 : Int32) (h9 : zw_H), q9 x9 h9 → (∀ h10 : zw_H, h10 = zw_sI h9 1 4 x9 → (∃ q11 : zw_H → Prop, zcV 5 mX7_refresh [.ref 0] h10 q11 ∧ (∀ h11 : zw_H, q11 h11 → q (1 : Int32) h11)))))))))))) ∧ (v1 = v2 → q (-1 : Int32) h2))))))))))) : zwI 6 mX7_apart q 0 [(0, .ref 0), (1, .int v1), (2, .int v2), (3, .int v3)] [] h := by
  refine zw_aload_n 0 dX7_apart_0 rfl rfl rfl ?_
  refine zw_iload_n 1 dX7_apart_1 rfl rfl rfl ?_
  obtain ⟨q1, ct, K⟩ := K
  refine zw_callV (n := 1) (As := [.int v1]) (rest := []) ct my_X7_isElement rfl rfl k_X7_93 i_X7_isElement s_X7_isElement zs_0 rfl dX7_apart_2 (by decide) (Nat.le_of_ble_eq_true rfl) (Nat.le_refl 0) (Nat.le_refl 0) rfl (fun r s1 h1 hq => ?_)
  obtain ⟨x1, rfl, rfl, hq⟩ := hq
  have K := K x1 h1 hq
  refine zw.st (st' := [.int x1]) rfl ?_
  refine zw_if_eq (tg := 21) dX7_apart_5 (by decide) rfl (fun c => ?_) (fun c => ?_)
  · have K := K.1 c
    refine zw_iconst (v := (-1 : Int32)) dX7_apart_21 (by decide) rfl ?_
    exact zw_ireturn (ty := .int) dX7_apart_22 rfl rfl (Nat.le_refl 0) (Nat.le_refl 0) ⟨_, rfl, rfl, K⟩
  · have K := K.2 c
    refine zw_aload_n 0 dX7_apart_8 rfl rfl rfl ?_
    refine zw_iload_n 2 dX7_apart_9 rfl rfl rfl ?_
    obtain ⟨q2, ct, K⟩ := K
    refine zw_callV (n := 1) (As := [.int v2]) (rest := []) ct my_X7_isElement rfl rfl k_X7_93 i_X7_isElement s_X7_isElement zs_0 rfl dX7_apart_10 (by decide) (Nat.le_of_ble_eq_true rfl) (Nat.le_refl 0) (Nat.le_refl 0) rfl (fun r s1 h2 hq => ?_)
    obtain ⟨x2, rfl, rfl, hq⟩ := hq
    have K := K x2 h2 hq
    refine zw.st (st' := [.int x2]) rfl ?_
    refine zw_if_eq (tg := 21) dX7_apart_13 (by decide) rfl (fun c => ?_) (fun c => ?_)
    · have K := K.1 c
      refine zw_iconst (v := (-1 : Int32)) dX7_apart_21 (by decide) rfl ?_
      exact zw_ireturn (ty := .int) dX7_apart_22 rfl rfl (Nat.le_refl 0) (Nat.le_refl 0) ⟨_, rfl, rfl, K⟩
    · have K := K.2 c
      refine zw_iload_n 1 dX7_apart_16 rfl rfl rfl ?_
      refine zw_iload_n 2 dX7_apart_17 rfl rfl rfl ?_
      refine zw_icmp_ne (tg := 23) dX7_apart_18 (by decide) rfl (fun c => ?_) (fun c => ?_)
      · have K := K.1 c
        refine zw_iload_n 1 dX7_apart_23 rfl rfl rfl ?_
        refine zw_iload_n 2 dX7_apart_24 rfl rfl rfl ?_
        obtain ⟨q3, ct, K⟩ := K
        refine zw_callS (n := 2) (As := [.int v1, .int v2]) (rest := []) ct my_X7_pairBit rfl rfl k_X7_97 t_X7_pairBit dX7_apart_25 (by decide) (Nat.le_of_ble_eq_true rfl) (Nat.le_refl 0) (Nat.le_refl 0) rfl (fun r s1 h3 hq => ?_)
        obtain ⟨x3, rfl, rfl, hq⟩ := hq
        have K := K x3 h3 hq
        refine zw.st (st' := [.int x3]) rfl ?_
        refine zw_istore dX7_apart_28 (by decide) rfl rfl ?_
        refine zw_aload_n 1 dX7_apart_30 rfl rfl rfl ?_
        refine zw_getR f_X7_10 dX7_apart_31 zs_0 rfl rfl ?_
        refine zw_getI f_X7_101 dX7_apart_34 zs_1 rfl rfl ?_
        refine zw_iload 0 dX7_apart_37 rfl rfl ?_
        refine zw_iand dX7_apart_39 rfl ?_
        refine zw_if_eq (tg := 47) dX7_apart_40 (by decide) rfl (fun c => ?_) (fun c => ?_)
        · have K := K.1 c
          refine zw_iconst (v := (0 : Int32)) dX7_apart_47 (by decide) rfl ?_
          refine zw_istore dX7_apart_48 (by decide) rfl rfl ?_
          refine zw_aload_n 2 dX7_apart_50 rfl rfl rfl ?_
          refine zw_getR f_X7_19 dX7_apart_51 zs_0 rfl rfl ?_
          refine zw_aload_n 2 dX7_apart_54 rfl rfl rfl ?_
          refine zw_getR f_X7_10 dX7_apart_55 zs_0 rfl rfl ?_
          obtain ⟨q4, ct, K⟩ := K
          refine zw_callV (n := 1) (As := [.ref 1]) (rest := []) ct my_X1_remember rfl rfl k_X7_79 i_X1_remember s_X1_remember zs_3 rfl dX7_apart_58 (by decide) (Nat.le_of_ble_eq_true rfl) (Nat.le_refl 0) (Nat.le_refl 0) rfl (fun r s1 h4 hq => ?_)
          obtain ⟨rfl, rfl, hq⟩ := hq
          have K := K h4 hq
          refine zw.st (st' := []) rfl ?_
          refine zw_aload_n 2 dX7_apart_61 rfl rfl rfl ?_
          refine zw_getR f_X7_10 dX7_apart_62 zs_0 rfl rfl ?_
          refine zw_aload_n 2 dX7_apart_65 rfl rfl rfl ?_
          refine zw_getR f_X7_10 dX7_apart_66 zs_0 rfl rfl ?_
          refine zw_getI f_X7_101 dX7_apart_69 zs_1 rfl rfl ?_
          refine zw_iload 1 dX7_apart_72 rfl rfl ?_
          refine zw_iload_n 5 dX7_apart_74 rfl rfl rfl ?_
          obtain ⟨q5, ct, K⟩ := K
          refine zw_callS (n := 3) (As := [.int (h4.1 1 4), .int x3, .int v3]) (rest := [.ref 1]) ct my_X7_withBits rfl rfl k_X7_86 t_X7_withBits dX7_apart_75 (by decide) (Nat.le_of_ble_eq_true rfl) (Nat.le_refl 0) (Nat.le_refl 0) rfl (fun r s1 h5 hq => ?_)
          obtain ⟨x5, rfl, rfl, hq⟩ := hq
          have K := K x5 h5 hq
          refine zw.st (st' := [.int x5, .ref 1]) rfl ?_
          refine zw_putI f_X7_101 cl_X5 rfl ⟨rfl, rfl⟩ dX7_apart_78 zs_1 rfl rfl ?_
          generalize e6 : zw_sI h5 1 4 x5 = h6
          have K := K h6 e6.symm
          refine zw_aload_n 2 dX7_apart_81 rfl rfl rfl ?_
          obtain ⟨q7, ct, K⟩ := K
          refine zw_callV (n := 0) (As := []) (rest := []) ct my_X7_refresh rfl rfl k_X7_72 i_X7_refresh s_X7_refresh zs_0 rfl dX7_apart_82 (by decide) (Nat.le_of_ble_eq_true rfl) (Nat.le_refl 0) (Nat.le_refl 0) rfl (fun r s1 h7 hq => ?_)
          obtain ⟨rfl, rfl, hq⟩ := hq
          have K := K h7 hq
          refine zw.st (st' := []) rfl ?_
          refine zw_iload 0 dX7_apart_85 rfl rfl ?_
          exact zw_ireturn (ty := .int) dX7_apart_87 rfl rfl (Nat.le_refl 0) (Nat.le_refl 0) ⟨_, rfl, rfl, K⟩
        · have K := K.2 c
          refine zw_iconst (v := (1 : Int32)) dX7_apart_43 (by decide) rfl ?_
          refine zw_goto (np := 48) dX7_apart_44 (by decide) ?_
          refine zw_istore dX7_apart_48 (by decide) rfl rfl ?_
          refine zw_aload_n 2 dX7_apart_50 rfl rfl rfl ?_
          refine zw_getR f_X7_19 dX7_apart_51 zs_0 rfl rfl ?_
          refine zw_aload_n 2 dX7_apart_54 rfl rfl rfl ?_
          refine zw_getR f_X7_10 dX7_apart_55 zs_0 rfl rfl ?_
          obtain ⟨q8, ct, K⟩ := K
          refine zw_callV (n := 1) (As := [.ref 1]) (rest := []) ct my_X1_remember rfl rfl k_X7_79 i_X1_remember s_X1_remember zs_3 rfl dX7_apart_58 (by decide) (Nat.le_of_ble_eq_true rfl) (Nat.le_refl 0) (Nat.le_refl 0) rfl (fun r s1 h8 hq => ?_)
          obtain ⟨rfl, rfl, hq⟩ := hq
          have K := K h8 hq
          refine zw.st (st' := []) rfl ?_
          refine zw_aload_n 2 dX7_apart_61 rfl rfl rfl ?_
          refine zw_getR f_X7_10 dX7_apart_62 zs_0 rfl rfl ?_
          refine zw_aload_n 2 dX7_apart_65 rfl rfl rfl ?_
          refine zw_getR f_X7_10 dX7_apart_66 zs_0 rfl rfl ?_
          refine zw_getI f_X7_101 dX7_apart_69 zs_1 rfl rfl ?_
          refine zw_iload 1 dX7_apart_72 rfl rfl ?_
          refine zw_iload_n 5 dX7_apart_74 rfl rfl rfl ?_
          obtain ⟨q9, ct, K⟩ := K
          refine zw_callS (n := 3) (As := [.int (h8.1 1 4), .int x3, .int v3]) (rest := [.ref 1]) ct my_X7_withBits rfl rfl k_X7_86 t_X7_withBits dX7_apart_75 (by decide) (Nat.le_of_ble_eq_true rfl) (Nat.le_refl 0) (Nat.le_refl 0) rfl (fun r s1 h9 hq => ?_)
          obtain ⟨x9, rfl, rfl, hq⟩ := hq
          have K := K x9 h9 hq
          refine zw.st (st' := [.int x9, .ref 1]) rfl ?_
          refine zw_putI f_X7_101 cl_X5 rfl ⟨rfl, rfl⟩ dX7_apart_78 zs_1 rfl rfl ?_
          generalize e10 : zw_sI h9 1 4 x9 = h10
          have K := K h10 e10.symm
          refine zw_aload_n 2 dX7_apart_81 rfl rfl rfl ?_
          obtain ⟨q11, ct, K⟩ := K
          refine zw_callV (n := 0) (As := []) (rest := []) ct my_X7_refresh rfl rfl k_X7_72 i_X7_refresh s_X7_refresh zs_0 rfl dX7_apart_82 (by decide) (Nat.le_of_ble_eq_true rfl) (Nat.le_refl 0) (Nat.le_refl 0) rfl (fun r s1 h11 hq => ?_)
          obtain ⟨rfl, rfl, hq⟩ := hq
          have K := K h11 hq
          refine zw.st (st' := []) rfl ?_
          refine zw_iload 0 dX7_apart_85 rfl rfl ?_
          exact zw_ireturn (ty := .int) dX7_apart_87 rfl rfl (Nat.le_refl 0) (Nat.le_refl 0) ⟨_, rfl, rfl, K⟩
      · have K := K.2 c
        refine zw_iconst (v := (-1 : Int32)) dX7_apart_21 (by decide) rfl ?_
        exact zw_ireturn (ty := .int) dX7_apart_22 rfl rfl (Nat.le_refl 0) (Nat.le_refl 0) ⟨_, rfl, rfl, K⟩

set_option maxRecDepth 100000 in
set_option maxHeartbeats 4000000 in
theorem rX7_together_0 {q : Int32 → zw_H → Prop} {h : zw_H} {v1 v2 v3 : Int32} (K : (∃ q1 : Int32 → zw_H → Prop, zcI 0 mX7_isElement [.ref 0, .int v1] h q1 ∧ (∀ (x1 : Int32) (h1 : zw_H), q1 x1 h1 → ((x1 = 0 → q (-1 : Int32) h1) ∧ (¬ x1 = 0 → (∃ q2 : Int32 → zw_H → Prop, zcI 0 mX7_isElement [.ref 0, .int v2] h1 q2 ∧ (∀ (x2 : Int32) (h2 : zw_H), q2 x2 h2 → ((x2 = 0 → q (-1 : Int32) h2) ∧ (¬ x2 = 0 → ((¬ v1 = v2 → (∃ q3 : Int32 → zw_H → Prop, zcI 0 mX7_pairBit [.int v1, .int v2] h2 q3 ∧ (∀ (x3 : Int32) (h3 : zw_H), q3 x3 h3 → ((((h3.1 1 5) &&& x3) = 0 → (∃ q4 : zw_H → Prop, zcV 1 mX1_remember [.ref 3, .ref 1] h3 q4 ∧ (∀ h4 : zw_H, q4 h4 → (∃ q5 : Int32 → zw_H → Prop, zcI 0 mX7_withBits [.int (h4.1 1 5), .int x3, .int v3] h4 q5 ∧ (∀ (x5 : Int32) (h5 : zw_H), q5 x5 h5 → (∀ h6 : zw_H, h6 = zw_sI h5 1 5 x5 → (∃ q7 : zw_H → Prop, zcV 5 mX7_refresh [.ref 0] h6 q7 ∧ (∀ h7 : zw_H, q7 h7 → q (0 : Int32) h7)))))))) ∧ (¬ ((h3.1 1 5) &&& x3) = 0 → (∃ q8 : zw_H → Prop, zcV 1 mX1_remember [.ref 3, .ref 1] h3 q8 ∧ (∀ h8 : zw_H, q8 h8 → (∃ q9 : Int32 → zw_H → Prop, zcI 0 mX7_withBits [.int (h8.1 1 5), .int x3, .int v3] h8 q9 ∧ (∀ (x9 : Int32) (h9 : zw_H), q9 x9 h9 → (∀ h10 : zw_H, h10 = zw_sI h9 1 5 x9 → (∃ q11 : zw_H → Prop, zcV 5 mX7_refresh [.ref 0] h10 q11 ∧ (∀ h11 : zw_H, q11 h11 → q (1 : Int32) h11)))))))))))) ∧ (v1 = v2 → q (-1 : Int32) h2))))))))))) : zwI 6 mX7_together q 0 [(0, .ref 0), (1, .int v1), (2, .int v2), (3, .int v3)] [] h := by
  refine zw_aload_n 0 dX7_together_0 rfl rfl rfl ?_
  refine zw_iload_n 1 dX7_together_1 rfl rfl rfl ?_
  obtain ⟨q1, ct, K⟩ := K
  refine zw_callV (n := 1) (As := [.int v1]) (rest := []) ct my_X7_isElement rfl rfl k_X7_93 i_X7_isElement s_X7_isElement zs_0 rfl dX7_together_2 (by decide) (Nat.le_of_ble_eq_true rfl) (Nat.le_refl 0) (Nat.le_refl 0) rfl (fun r s1 h1 hq => ?_)
  obtain ⟨x1, rfl, rfl, hq⟩ := hq
  have K := K x1 h1 hq
  refine zw.st (st' := [.int x1]) rfl ?_
  refine zw_if_eq (tg := 21) dX7_together_5 (by decide) rfl (fun c => ?_) (fun c => ?_)
  · have K := K.1 c
    refine zw_iconst (v := (-1 : Int32)) dX7_together_21 (by decide) rfl ?_
    exact zw_ireturn (ty := .int) dX7_together_22 rfl rfl (Nat.le_refl 0) (Nat.le_refl 0) ⟨_, rfl, rfl, K⟩
  · have K := K.2 c
    refine zw_aload_n 0 dX7_together_8 rfl rfl rfl ?_
    refine zw_iload_n 2 dX7_together_9 rfl rfl rfl ?_
    obtain ⟨q2, ct, K⟩ := K
    refine zw_callV (n := 1) (As := [.int v2]) (rest := []) ct my_X7_isElement rfl rfl k_X7_93 i_X7_isElement s_X7_isElement zs_0 rfl dX7_together_10 (by decide) (Nat.le_of_ble_eq_true rfl) (Nat.le_refl 0) (Nat.le_refl 0) rfl (fun r s1 h2 hq => ?_)
    obtain ⟨x2, rfl, rfl, hq⟩ := hq
    have K := K x2 h2 hq
    refine zw.st (st' := [.int x2]) rfl ?_
    refine zw_if_eq (tg := 21) dX7_together_13 (by decide) rfl (fun c => ?_) (fun c => ?_)
    · have K := K.1 c
      refine zw_iconst (v := (-1 : Int32)) dX7_together_21 (by decide) rfl ?_
      exact zw_ireturn (ty := .int) dX7_together_22 rfl rfl (Nat.le_refl 0) (Nat.le_refl 0) ⟨_, rfl, rfl, K⟩
    · have K := K.2 c
      refine zw_iload_n 1 dX7_together_16 rfl rfl rfl ?_
      refine zw_iload_n 2 dX7_together_17 rfl rfl rfl ?_
      refine zw_icmp_ne (tg := 23) dX7_together_18 (by decide) rfl (fun c => ?_) (fun c => ?_)
      · have K := K.1 c
        refine zw_iload_n 1 dX7_together_23 rfl rfl rfl ?_
        refine zw_iload_n 2 dX7_together_24 rfl rfl rfl ?_
        obtain ⟨q3, ct, K⟩ := K
        refine zw_callS (n := 2) (As := [.int v1, .int v2]) (rest := []) ct my_X7_pairBit rfl rfl k_X7_97 t_X7_pairBit dX7_together_25 (by decide) (Nat.le_of_ble_eq_true rfl) (Nat.le_refl 0) (Nat.le_refl 0) rfl (fun r s1 h3 hq => ?_)
        obtain ⟨x3, rfl, rfl, hq⟩ := hq
        have K := K x3 h3 hq
        refine zw.st (st' := [.int x3]) rfl ?_
        refine zw_istore dX7_together_28 (by decide) rfl rfl ?_
        refine zw_aload_n 1 dX7_together_30 rfl rfl rfl ?_
        refine zw_getR f_X7_10 dX7_together_31 zs_0 rfl rfl ?_
        refine zw_getI f_X7_104 dX7_together_34 zs_1 rfl rfl ?_
        refine zw_iload 0 dX7_together_37 rfl rfl ?_
        refine zw_iand dX7_together_39 rfl ?_
        refine zw_if_eq (tg := 47) dX7_together_40 (by decide) rfl (fun c => ?_) (fun c => ?_)
        · have K := K.1 c
          refine zw_iconst (v := (0 : Int32)) dX7_together_47 (by decide) rfl ?_
          refine zw_istore dX7_together_48 (by decide) rfl rfl ?_
          refine zw_aload_n 2 dX7_together_50 rfl rfl rfl ?_
          refine zw_getR f_X7_19 dX7_together_51 zs_0 rfl rfl ?_
          refine zw_aload_n 2 dX7_together_54 rfl rfl rfl ?_
          refine zw_getR f_X7_10 dX7_together_55 zs_0 rfl rfl ?_
          obtain ⟨q4, ct, K⟩ := K
          refine zw_callV (n := 1) (As := [.ref 1]) (rest := []) ct my_X1_remember rfl rfl k_X7_79 i_X1_remember s_X1_remember zs_3 rfl dX7_together_58 (by decide) (Nat.le_of_ble_eq_true rfl) (Nat.le_refl 0) (Nat.le_refl 0) rfl (fun r s1 h4 hq => ?_)
          obtain ⟨rfl, rfl, hq⟩ := hq
          have K := K h4 hq
          refine zw.st (st' := []) rfl ?_
          refine zw_aload_n 2 dX7_together_61 rfl rfl rfl ?_
          refine zw_getR f_X7_10 dX7_together_62 zs_0 rfl rfl ?_
          refine zw_aload_n 2 dX7_together_65 rfl rfl rfl ?_
          refine zw_getR f_X7_10 dX7_together_66 zs_0 rfl rfl ?_
          refine zw_getI f_X7_104 dX7_together_69 zs_1 rfl rfl ?_
          refine zw_iload 1 dX7_together_72 rfl rfl ?_
          refine zw_iload_n 5 dX7_together_74 rfl rfl rfl ?_
          obtain ⟨q5, ct, K⟩ := K
          refine zw_callS (n := 3) (As := [.int (h4.1 1 5), .int x3, .int v3]) (rest := [.ref 1]) ct my_X7_withBits rfl rfl k_X7_86 t_X7_withBits dX7_together_75 (by decide) (Nat.le_of_ble_eq_true rfl) (Nat.le_refl 0) (Nat.le_refl 0) rfl (fun r s1 h5 hq => ?_)
          obtain ⟨x5, rfl, rfl, hq⟩ := hq
          have K := K x5 h5 hq
          refine zw.st (st' := [.int x5, .ref 1]) rfl ?_
          refine zw_putI f_X7_104 cl_X5 rfl ⟨rfl, rfl⟩ dX7_together_78 zs_1 rfl rfl ?_
          generalize e6 : zw_sI h5 1 5 x5 = h6
          have K := K h6 e6.symm
          refine zw_aload_n 2 dX7_together_81 rfl rfl rfl ?_
          obtain ⟨q7, ct, K⟩ := K
          refine zw_callV (n := 0) (As := []) (rest := []) ct my_X7_refresh rfl rfl k_X7_72 i_X7_refresh s_X7_refresh zs_0 rfl dX7_together_82 (by decide) (Nat.le_of_ble_eq_true rfl) (Nat.le_refl 0) (Nat.le_refl 0) rfl (fun r s1 h7 hq => ?_)
          obtain ⟨rfl, rfl, hq⟩ := hq
          have K := K h7 hq
          refine zw.st (st' := []) rfl ?_
          refine zw_iload 0 dX7_together_85 rfl rfl ?_
          exact zw_ireturn (ty := .int) dX7_together_87 rfl rfl (Nat.le_refl 0) (Nat.le_refl 0) ⟨_, rfl, rfl, K⟩
        · have K := K.2 c
          refine zw_iconst (v := (1 : Int32)) dX7_together_43 (by decide) rfl ?_
          refine zw_goto (np := 48) dX7_together_44 (by decide) ?_
          refine zw_istore dX7_together_48 (by decide) rfl rfl ?_
          refine zw_aload_n 2 dX7_together_50 rfl rfl rfl ?_
          refine zw_getR f_X7_19 dX7_together_51 zs_0 rfl rfl ?_
          refine zw_aload_n 2 dX7_together_54 rfl rfl rfl ?_
          refine zw_getR f_X7_10 dX7_together_55 zs_0 rfl rfl ?_
          obtain ⟨q8, ct, K⟩ := K
          refine zw_callV (n := 1) (As := [.ref 1]) (rest := []) ct my_X1_remember rfl rfl k_X7_79 i_X1_remember s_X1_remember zs_3 rfl dX7_together_58 (by decide) (Nat.le_of_ble_eq_true rfl) (Nat.le_refl 0) (Nat.le_refl 0) rfl (fun r s1 h8 hq => ?_)
          obtain ⟨rfl, rfl, hq⟩ := hq
          have K := K h8 hq
          refine zw.st (st' := []) rfl ?_
          refine zw_aload_n 2 dX7_together_61 rfl rfl rfl ?_
          refine zw_getR f_X7_10 dX7_together_62 zs_0 rfl rfl ?_
          refine zw_aload_n 2 dX7_together_65 rfl rfl rfl ?_
          refine zw_getR f_X7_10 dX7_together_66 zs_0 rfl rfl ?_
          refine zw_getI f_X7_104 dX7_together_69 zs_1 rfl rfl ?_
          refine zw_iload 1 dX7_together_72 rfl rfl ?_
          refine zw_iload_n 5 dX7_together_74 rfl rfl rfl ?_
          obtain ⟨q9, ct, K⟩ := K
          refine zw_callS (n := 3) (As := [.int (h8.1 1 5), .int x3, .int v3]) (rest := [.ref 1]) ct my_X7_withBits rfl rfl k_X7_86 t_X7_withBits dX7_together_75 (by decide) (Nat.le_of_ble_eq_true rfl) (Nat.le_refl 0) (Nat.le_refl 0) rfl (fun r s1 h9 hq => ?_)
          obtain ⟨x9, rfl, rfl, hq⟩ := hq
          have K := K x9 h9 hq
          refine zw.st (st' := [.int x9, .ref 1]) rfl ?_
          refine zw_putI f_X7_104 cl_X5 rfl ⟨rfl, rfl⟩ dX7_together_78 zs_1 rfl rfl ?_
          generalize e10 : zw_sI h9 1 5 x9 = h10
          have K := K h10 e10.symm
          refine zw_aload_n 2 dX7_together_81 rfl rfl rfl ?_
          obtain ⟨q11, ct, K⟩ := K
          refine zw_callV (n := 0) (As := []) (rest := []) ct my_X7_refresh rfl rfl k_X7_72 i_X7_refresh s_X7_refresh zs_0 rfl dX7_together_82 (by decide) (Nat.le_of_ble_eq_true rfl) (Nat.le_refl 0) (Nat.le_refl 0) rfl (fun r s1 h11 hq => ?_)
          obtain ⟨rfl, rfl, hq⟩ := hq
          have K := K h11 hq
          refine zw.st (st' := []) rfl ?_
          refine zw_iload 0 dX7_together_85 rfl rfl ?_
          exact zw_ireturn (ty := .int) dX7_together_87 rfl rfl (Nat.le_refl 0) (Nat.le_refl 0) ⟨_, rfl, rfl, K⟩
      · have K := K.2 c
        refine zw_iconst (v := (-1 : Int32)) dX7_together_21 (by decide) rfl ?_
        exact zw_ireturn (ty := .int) dX7_together_22 rfl rfl (Nat.le_refl 0) (Nat.le_refl 0) ⟨_, rfl, rfl, K⟩

set_option maxRecDepth 100000 in
set_option maxHeartbeats 4000000 in
theorem rX7_noncrossing_0 {q : Int32 → zw_H → Prop} {h : zw_H} {v1 : Int32} (K : (((h.1 1 6) = 0 → (∃ q1 : zw_H → Prop, zcV 1 mX1_remember [.ref 3, .ref 1] h q1 ∧ (∀ h1 : zw_H, q1 h1 → ((v1 = 0 ∨ v1 = 1) ∧ ∀ h2 : zw_H, h2 = zw_sI h1 1 6 v1 → (∃ q3 : zw_H → Prop, zcV 5 mX7_refresh [.ref 0] h2 q3 ∧ (∀ h3 : zw_H, q3 h3 → q (0 : Int32) h3)))))) ∧ (¬ (h.1 1 6) = 0 → (∃ q4 : zw_H → Prop, zcV 1 mX1_remember [.ref 3, .ref 1] h q4 ∧ (∀ h4 : zw_H, q4 h4 → ((v1 = 0 ∨ v1 = 1) ∧ ∀ h5 : zw_H, h5 = zw_sI h4 1 6 v1 → (∃ q6 : zw_H → Prop, zcV 5 mX7_refresh [.ref 0] h5 q6 ∧ (∀ h6 : zw_H, q6 h6 → q (1 : Int32) h6)))))))) : zwI 6 mX7_noncrossing q 0 [(0, .ref 0), (1, .int v1)] [] h := by
  refine zw_aload_n 0 dX7_noncrossing_0 rfl rfl rfl ?_
  refine zw_getR f_X7_10 dX7_noncrossing_1 zs_0 rfl rfl ?_
  refine zw_getI f_X7_107 dX7_noncrossing_4 zs_1 rfl rfl ?_
  refine zw_if_eq (tg := 14) dX7_noncrossing_7 (by decide) rfl (fun c => ?_) (fun c => ?_)
  · have K := K.1 c
    refine zw_iconst (v := (0 : Int32)) dX7_noncrossing_14 (by decide) rfl ?_
    refine zw_istore_n dX7_noncrossing_15 rfl (by decide) rfl rfl ?_
    refine zw_aload_n 1 dX7_noncrossing_16 rfl rfl rfl ?_
    refine zw_getR f_X7_19 dX7_noncrossing_17 zs_0 rfl rfl ?_
    refine zw_aload_n 1 dX7_noncrossing_20 rfl rfl rfl ?_
    refine zw_getR f_X7_10 dX7_noncrossing_21 zs_0 rfl rfl ?_
    obtain ⟨q1, ct, K⟩ := K
    refine zw_callV (n := 1) (As := [.ref 1]) (rest := []) ct my_X1_remember rfl rfl k_X7_79 i_X1_remember s_X1_remember zs_3 rfl dX7_noncrossing_24 (by decide) (Nat.le_of_ble_eq_true rfl) (Nat.le_refl 0) (Nat.le_refl 0) rfl (fun r s1 h1 hq => ?_)
    obtain ⟨rfl, rfl, hq⟩ := hq
    have K := K h1 hq
    refine zw.st (st' := []) rfl ?_
    refine zw_aload_n 1 dX7_noncrossing_27 rfl rfl rfl ?_
    refine zw_getR f_X7_10 dX7_noncrossing_28 zs_0 rfl rfl ?_
    refine zw_iload_n 2 dX7_noncrossing_31 rfl rfl rfl ?_
    obtain ⟨hb, K⟩ := K
    refine zw_putI f_X7_107 cl_X5 rfl (zw_nb hb) dX7_noncrossing_32 zs_1 rfl rfl ?_
    generalize e2 : zw_sI h1 1 6 v1 = h2
    have K := K h2 e2.symm
    refine zw_aload_n 1 dX7_noncrossing_35 rfl rfl rfl ?_
    obtain ⟨q3, ct, K⟩ := K
    refine zw_callV (n := 0) (As := []) (rest := []) ct my_X7_refresh rfl rfl k_X7_72 i_X7_refresh s_X7_refresh zs_0 rfl dX7_noncrossing_36 (by decide) (Nat.le_of_ble_eq_true rfl) (Nat.le_refl 0) (Nat.le_refl 0) rfl (fun r s1 h3 hq => ?_)
    obtain ⟨rfl, rfl, hq⟩ := hq
    have K := K h3 hq
    refine zw.st (st' := []) rfl ?_
    refine zw_iload_n 0 dX7_noncrossing_39 rfl rfl rfl ?_
    exact zw_ireturn (ty := .int) dX7_noncrossing_40 rfl rfl (Nat.le_refl 0) (Nat.le_refl 0) ⟨_, rfl, rfl, K⟩
  · have K := K.2 c
    refine zw_iconst (v := (1 : Int32)) dX7_noncrossing_10 (by decide) rfl ?_
    refine zw_goto (np := 15) dX7_noncrossing_11 (by decide) ?_
    refine zw_istore_n dX7_noncrossing_15 rfl (by decide) rfl rfl ?_
    refine zw_aload_n 1 dX7_noncrossing_16 rfl rfl rfl ?_
    refine zw_getR f_X7_19 dX7_noncrossing_17 zs_0 rfl rfl ?_
    refine zw_aload_n 1 dX7_noncrossing_20 rfl rfl rfl ?_
    refine zw_getR f_X7_10 dX7_noncrossing_21 zs_0 rfl rfl ?_
    obtain ⟨q4, ct, K⟩ := K
    refine zw_callV (n := 1) (As := [.ref 1]) (rest := []) ct my_X1_remember rfl rfl k_X7_79 i_X1_remember s_X1_remember zs_3 rfl dX7_noncrossing_24 (by decide) (Nat.le_of_ble_eq_true rfl) (Nat.le_refl 0) (Nat.le_refl 0) rfl (fun r s1 h4 hq => ?_)
    obtain ⟨rfl, rfl, hq⟩ := hq
    have K := K h4 hq
    refine zw.st (st' := []) rfl ?_
    refine zw_aload_n 1 dX7_noncrossing_27 rfl rfl rfl ?_
    refine zw_getR f_X7_10 dX7_noncrossing_28 zs_0 rfl rfl ?_
    refine zw_iload_n 2 dX7_noncrossing_31 rfl rfl rfl ?_
    obtain ⟨hb, K⟩ := K
    refine zw_putI f_X7_107 cl_X5 rfl (zw_nb hb) dX7_noncrossing_32 zs_1 rfl rfl ?_
    generalize e5 : zw_sI h4 1 6 v1 = h5
    have K := K h5 e5.symm
    refine zw_aload_n 1 dX7_noncrossing_35 rfl rfl rfl ?_
    obtain ⟨q6, ct, K⟩ := K
    refine zw_callV (n := 0) (As := []) (rest := []) ct my_X7_refresh rfl rfl k_X7_72 i_X7_refresh s_X7_refresh zs_0 rfl dX7_noncrossing_36 (by decide) (Nat.le_of_ble_eq_true rfl) (Nat.le_refl 0) (Nat.le_refl 0) rfl (fun r s1 h6 hq => ?_)
    obtain ⟨rfl, rfl, hq⟩ := hq
    have K := K h6 hq
    refine zw.st (st' := []) rfl ?_
    refine zw_iload_n 0 dX7_noncrossing_39 rfl rfl rfl ?_
    exact zw_ireturn (ty := .int) dX7_noncrossing_40 rfl rfl (Nat.le_refl 0) (Nat.le_refl 0) ⟨_, rfl, rfl, K⟩

set_option maxRecDepth 100000 in
set_option maxHeartbeats 4000000 in
theorem rX7_type_0 {q : Int32 → zw_H → Prop} {h : zw_H} {v1 : Int32} (K : ((v1 < 0 → q (-1 : Int32) h) ∧ (¬ v1 < 0 → ((v1 ≤ (127 : Int32) → (∃ q1 : Int32 → zw_H → Prop, zcI 0 mX6_append [.ref 25, .int v1] h q1 ∧ (∀ (x1 : Int32) (h1 : zw_H), q1 x1 h1 → ((x1 = 0 → q (-4 : Int32) h1) ∧ (¬ x1 = 0 → q (h1.1 25 1) h1))))) ∧ (¬ v1 ≤ (127 : Int32) → q (-1 : Int32) h))))) : zwI 1 mX7_type q 0 [(0, .ref 0), (1, .int v1)] [] h := by
  refine zw_iload_n 1 dX7_type_0 rfl rfl rfl ?_
  refine zw_if_lt (tg := 10) dX7_type_1 (by decide) rfl (fun c => ?_) (fun c => ?_)
  · have K := K.1 c
    refine zw_iconst (v := (-1 : Int32)) dX7_type_10 (by decide) rfl ?_
    exact zw_ireturn (ty := .int) dX7_type_11 rfl rfl (Nat.le_refl 0) (Nat.le_refl 0) ⟨_, rfl, rfl, K⟩
  · have K := K.2 c
    refine zw_iload_n 1 dX7_type_4 rfl rfl rfl ?_
    refine zw_bipush (v := (127 : Int32)) dX7_type_5 (by decide) rfl ?_
    refine zw_icmp_le (tg := 12) dX7_type_7 (by decide) rfl (fun c => ?_) (fun c => ?_)
    · have K := K.1 c
      refine zw_aload_n 0 dX7_type_12 rfl rfl rfl ?_
      refine zw_getR f_X7_26 dX7_type_13 zs_0 rfl rfl ?_
      refine zw_iload_n 1 dX7_type_16 rfl rfl rfl ?_
      obtain ⟨q1, ct, K⟩ := K
      refine zw_callV (n := 1) (As := [.int v1]) (rest := []) ct my_X6_append rfl rfl k_X7_111 i_X6_append s_X6_append zs_25 rfl dX7_type_17 (by decide) (Nat.le_of_ble_eq_true rfl) (Nat.le_refl 0) (Nat.le_refl 0) rfl (fun r s1 h1 hq => ?_)
      obtain ⟨x1, rfl, rfl, hq⟩ := hq
      have K := K x1 h1 hq
      refine zw.st (st' := [.int x1]) rfl ?_
      refine zw_if_eq (tg := 33) dX7_type_20 (by decide) rfl (fun c => ?_) (fun c => ?_)
      · have K := K.1 c
        refine zw_bipush (v := (-4 : Int32)) dX7_type_33 (by decide) rfl ?_
        exact zw_ireturn (ty := .int) dX7_type_35 rfl rfl (Nat.le_refl 0) (Nat.le_refl 0) ⟨_, rfl, rfl, K⟩
      · have K := K.2 c
        refine zw_aload_n 0 dX7_type_23 rfl rfl rfl ?_
        refine zw_getR f_X7_26 dX7_type_24 zs_0 rfl rfl ?_
        refine zw_getI f_X7_114 dX7_type_27 zs_25 rfl rfl ?_
        refine zw_goto (np := 35) dX7_type_30 (by decide) ?_
        exact zw_ireturn (ty := .int) dX7_type_35 rfl rfl (Nat.le_refl 0) (Nat.le_refl 0) ⟨_, rfl, rfl, K⟩
    · have K := K.2 c
      refine zw_iconst (v := (-1 : Int32)) dX7_type_10 (by decide) rfl ?_
      exact zw_ireturn (ty := .int) dX7_type_11 rfl rfl (Nat.le_refl 0) (Nat.le_refl 0) ⟨_, rfl, rfl, K⟩

set_option maxRecDepth 100000 in
set_option maxHeartbeats 4000000 in
theorem rX7_clear_0 {q : Int32 → zw_H → Prop} {h : zw_H} (K : (∀ h1 : zw_H, h1 = zw_sI h 25 1 (0 : Int32) → q (h.1 25 1) h1)) : zwI 0 mX7_clear q 0 [(0, .ref 0)] [] h := by
  refine zw_aload_n 0 dX7_clear_0 rfl rfl rfl ?_
  refine zw_getR f_X7_26 dX7_clear_1 zs_0 rfl rfl ?_
  refine zw_getI f_X7_114 dX7_clear_4 zs_25 rfl rfl ?_
  refine zw_istore_n dX7_clear_7 rfl (by decide) rfl rfl ?_
  refine zw_aload_n 1 dX7_clear_8 rfl rfl rfl ?_
  refine zw_getR f_X7_26 dX7_clear_9 zs_0 rfl rfl ?_
  refine zw_iconst (v := (0 : Int32)) dX7_clear_12 (by decide) rfl ?_
  refine zw_putI f_X7_114 cl_X6 rfl ⟨rfl, rfl⟩ dX7_clear_13 zs_25 rfl rfl ?_
  generalize e1 : zw_sI h 25 1 (0 : Int32) = h1
  have K := K h1 e1.symm
  refine zw_iload_n 0 dX7_clear_16 rfl rfl rfl ?_
  exact zw_ireturn (ty := .int) dX7_clear_17 rfl rfl (Nat.le_refl 0) (Nat.le_refl 0) ⟨_, rfl, rfl, K⟩

set_option maxRecDepth 100000 in
set_option maxHeartbeats 4000000 in
theorem rX7_read_0 {q : Int32 → zw_H → Prop} {h : zw_H} {v1 : Int32} (K : (∃ q1 : Int32 → zw_H → Prop, zcI 0 mX7_isRegister [.int v1] h q1 ∧ (∀ (x1 : Int32) (h1 : zw_H), q1 x1 h1 → ((¬ x1 = 0 → (∃ q2 : Int32 → zw_H → Prop, zcI 2 mX6_parse [.ref 25, .int (h1.1 1 1)] h1 q2 ∧ (∀ (x2 : Int32) (h2 : zw_H), q2 x2 h2 → ((0 ≤ x2 → (∃ q3 : Int32 → zw_H → Prop, zcI 4 mX7_put [.ref 0, .int v1, .int x2] h2 q3 ∧ (∀ (x3 : Int32) (h3 : zw_H), q3 x3 h3 → q x3 h3))) ∧ (¬ 0 ≤ x2 → q x2 h2))))) ∧ (x1 = 0 → q (-1 : Int32) h1))))) : zwI 5 mX7_read q 0 [(0, .ref 0), (1, .int v1)] [] h := by
  refine zw_iload_n 1 dX7_read_0 rfl rfl rfl ?_
  obtain ⟨q1, ct, K⟩ := K
  refine zw_callS (n := 1) (As := [.int v1]) (rest := []) ct my_X7_isRegister rfl rfl k_X7_117 t_X7_isRegister dX7_read_1 (by decide) (Nat.le_of_ble_eq_true rfl) (Nat.le_refl 0) (Nat.le_refl 0) rfl (fun r s1 h1 hq => ?_)
  obtain ⟨x1, rfl, rfl, hq⟩ := hq
  have K := K x1 h1 hq
  refine zw.st (st' := [.int x1]) rfl ?_
  refine zw_if_ne (tg := 9) dX7_read_4 (by decide) rfl (fun c => ?_) (fun c => ?_)
  · have K := K.1 c
    refine zw_aload_n 0 dX7_read_9 rfl rfl rfl ?_
    refine zw_getR f_X7_26 dX7_read_10 zs_0 rfl rfl ?_
    refine zw_aload_n 0 dX7_read_13 rfl rfl rfl ?_
    refine zw_getR f_X7_10 dX7_read_14 zs_0 rfl rfl ?_
    refine zw_getI f_X7_75 dX7_read_17 zs_1 rfl rfl ?_
    obtain ⟨q2, ct, K⟩ := K
    refine zw_callV (n := 1) (As := [.int (h1.1 1 1)]) (rest := []) ct my_X6_parse rfl rfl k_X7_120 i_X6_parse s_X6_parse zs_25 rfl dX7_read_20 (by decide) (Nat.le_of_ble_eq_true rfl) (Nat.le_refl 0) (Nat.le_refl 0) rfl (fun r s1 h2 hq => ?_)
    obtain ⟨x2, rfl, rfl, hq⟩ := hq
    have K := K x2 h2 hq
    refine zw.st (st' := [.int x2]) rfl ?_
    refine zw_istore_n dX7_read_23 rfl (by decide) rfl rfl ?_
    refine zw_iload_n 0 dX7_read_24 rfl rfl rfl ?_
    refine zw_if_ge (tg := 32) dX7_read_25 (by decide) rfl (fun c => ?_) (fun c => ?_)
    · have K := K.1 c
      refine zw_aload_n 1 dX7_read_32 rfl rfl rfl ?_
      refine zw_iload_n 2 dX7_read_33 rfl rfl rfl ?_
      refine zw_iload_n 0 dX7_read_34 rfl rfl rfl ?_
      obtain ⟨q3, ct, K⟩ := K
      refine zw_callV (n := 2) (As := [.int v1, .int x2]) (rest := []) ct my_X7_put rfl rfl k_X7_124 i_X7_put s_X7_put zs_0 rfl dX7_read_35 (by decide) (Nat.le_of_ble_eq_true rfl) (Nat.le_refl 0) (Nat.le_refl 0) rfl (fun r s1 h3 hq => ?_)
      obtain ⟨x3, rfl, rfl, hq⟩ := hq
      have K := K x3 h3 hq
      refine zw.st (st' := [.int x3]) rfl ?_
      exact zw_ireturn (ty := .int) dX7_read_38 rfl rfl (Nat.le_refl 0) (Nat.le_refl 0) ⟨_, rfl, rfl, K⟩
    · have K := K.2 c
      refine zw_iload_n 0 dX7_read_28 rfl rfl rfl ?_
      refine zw_goto (np := 38) dX7_read_29 (by decide) ?_
      exact zw_ireturn (ty := .int) dX7_read_38 rfl rfl (Nat.le_refl 0) (Nat.le_refl 0) ⟨_, rfl, rfl, K⟩
  · have K := K.2 c
    refine zw_iconst (v := (-1 : Int32)) dX7_read_7 (by decide) rfl ?_
    exact zw_ireturn (ty := .int) dX7_read_8 rfl rfl (Nat.le_refl 0) (Nat.le_refl 0) ⟨_, rfl, rfl, K⟩

set_option maxRecDepth 100000 in
set_option maxHeartbeats 4000000 in
theorem rX7_finest_0 {q : Int32 → zw_H → Prop} {h : zw_H} {v1 : Int32} (K : (∃ q1 : Int32 → zw_H → Prop, zcI 0 mX7_isRegister [.int v1] h q1 ∧ (∀ (x1 : Int32) (h1 : zw_H), q1 x1 h1 → ((x1 = 0 → q (-1 : Int32) h1) ∧ (¬ x1 = 0 → (∃ q2 : Int32 → zw_H → Prop, zcI 4 mX7_put [.ref 0, .int v1, .int (0 : Int32)] h1 q2 ∧ (∀ (x2 : Int32) (h2 : zw_H), q2 x2 h2 → q x2 h2))))))) : zwI 5 mX7_finest q 0 [(0, .ref 0), (1, .int v1)] [] h := by
  refine zw_iload_n 1 dX7_finest_0 rfl rfl rfl ?_
  obtain ⟨q1, ct, K⟩ := K
  refine zw_callS (n := 1) (As := [.int v1]) (rest := []) ct my_X7_isRegister rfl rfl k_X7_117 t_X7_isRegister dX7_finest_1 (by decide) (Nat.le_of_ble_eq_true rfl) (Nat.le_refl 0) (Nat.le_refl 0) rfl (fun r s1 h1 hq => ?_)
  obtain ⟨x1, rfl, rfl, hq⟩ := hq
  have K := K x1 h1 hq
  refine zw.st (st' := [.int x1]) rfl ?_
  refine zw_if_eq (tg := 16) dX7_finest_4 (by decide) rfl (fun c => ?_) (fun c => ?_)
  · have K := K.1 c
    refine zw_iconst (v := (-1 : Int32)) dX7_finest_16 (by decide) rfl ?_
    exact zw_ireturn (ty := .int) dX7_finest_17 rfl rfl (Nat.le_refl 0) (Nat.le_refl 0) ⟨_, rfl, rfl, K⟩
  · have K := K.2 c
    refine zw_aload_n 0 dX7_finest_7 rfl rfl rfl ?_
    refine zw_iload_n 1 dX7_finest_8 rfl rfl rfl ?_
    refine zw_iconst (v := (0 : Int32)) dX7_finest_9 (by decide) rfl ?_
    obtain ⟨q2, ct, K⟩ := K
    refine zw_callV (n := 2) (As := [.int v1, .int (0 : Int32)]) (rest := []) ct my_X7_put rfl rfl k_X7_124 i_X7_put s_X7_put zs_0 rfl dX7_finest_10 (by decide) (Nat.le_of_ble_eq_true rfl) (Nat.le_refl 0) (Nat.le_refl 0) rfl (fun r s1 h2 hq => ?_)
    obtain ⟨x2, rfl, rfl, hq⟩ := hq
    have K := K x2 h2 hq
    refine zw.st (st' := [.int x2]) rfl ?_
    refine zw_goto (np := 17) dX7_finest_13 (by decide) ?_
    exact zw_ireturn (ty := .int) dX7_finest_17 rfl rfl (Nat.le_refl 0) (Nat.le_refl 0) ⟨_, rfl, rfl, K⟩

set_option maxRecDepth 100000 in
set_option maxHeartbeats 4000000 in
theorem rX7_coarsest_0 {q : Int32 → zw_H → Prop} {h : zw_H} {v1 : Int32} (K : (∃ q1 : Int32 → zw_H → Prop, zcI 0 mX7_isRegister [.int v1] h q1 ∧ (∀ (x1 : Int32) (h1 : zw_H), q1 x1 h1 → ((x1 = 0 → q (-1 : Int32) h1) ∧ (¬ x1 = 0 → (∃ q2 : Int32 → zw_H → Prop, zcI 0 mX7_allPairs [.int (h1.1 1 1)] h1 q2 ∧ (∀ (x2 : Int32) (h2 : zw_H), q2 x2 h2 → (∃ q3 : Int32 → zw_H → Prop, zcI 4 mX7_put [.ref 0, .int v1, .int x2] h2 q3 ∧ (∀ (x3 : Int32) (h3 : zw_H), q3 x3 h3 → q x3 h3))))))))) : zwI 5 mX7_coarsest q 0 [(0, .ref 0), (1, .int v1)] [] h := by
  refine zw_iload_n 1 dX7_coarsest_0 rfl rfl rfl ?_
  obtain ⟨q1, ct, K⟩ := K
  refine zw_callS (n := 1) (As := [.int v1]) (rest := []) ct my_X7_isRegister rfl rfl k_X7_117 t_X7_isRegister dX7_coarsest_1 (by decide) (Nat.le_of_ble_eq_true rfl) (Nat.le_refl 0) (Nat.le_refl 0) rfl (fun r s1 h1 hq => ?_)
  obtain ⟨x1, rfl, rfl, hq⟩ := hq
  have K := K x1 h1 hq
  refine zw.st (st' := [.int x1]) rfl ?_
  refine zw_if_eq (tg := 25) dX7_coarsest_4 (by decide) rfl (fun c => ?_) (fun c => ?_)
  · have K := K.1 c
    refine zw_iconst (v := (-1 : Int32)) dX7_coarsest_25 (by decide) rfl ?_
    exact zw_ireturn (ty := .int) dX7_coarsest_26 rfl rfl (Nat.le_refl 0) (Nat.le_refl 0) ⟨_, rfl, rfl, K⟩
  · have K := K.2 c
    refine zw_aload_n 0 dX7_coarsest_7 rfl rfl rfl ?_
    refine zw_iload_n 1 dX7_coarsest_8 rfl rfl rfl ?_
    refine zw_aload_n 0 dX7_coarsest_9 rfl rfl rfl ?_
    refine zw_getR f_X7_10 dX7_coarsest_10 zs_0 rfl rfl ?_
    refine zw_getI f_X7_75 dX7_coarsest_13 zs_1 rfl rfl ?_
    obtain ⟨q2, ct, K⟩ := K
    refine zw_callS (n := 1) (As := [.int (h1.1 1 1)]) (rest := [.int v1, .ref 0]) ct my_X7_allPairs rfl rfl k_X7_127 t_X7_allPairs dX7_coarsest_16 (by decide) (Nat.le_of_ble_eq_true rfl) (Nat.le_refl 0) (Nat.le_refl 0) rfl (fun r s1 h2 hq => ?_)
    obtain ⟨x2, rfl, rfl, hq⟩ := hq
    have K := K x2 h2 hq
    refine zw.st (st' := [.int x2, .int v1, .ref 0]) rfl ?_
    obtain ⟨q3, ct, K⟩ := K
    refine zw_callV (n := 2) (As := [.int v1, .int x2]) (rest := []) ct my_X7_put rfl rfl k_X7_124 i_X7_put s_X7_put zs_0 rfl dX7_coarsest_19 (by decide) (Nat.le_of_ble_eq_true rfl) (Nat.le_refl 0) (Nat.le_refl 0) rfl (fun r s1 h3 hq => ?_)
    obtain ⟨x3, rfl, rfl, hq⟩ := hq
    have K := K x3 h3 hq
    refine zw.st (st' := [.int x3]) rfl ?_
    refine zw_goto (np := 26) dX7_coarsest_22 (by decide) ?_
    exact zw_ireturn (ty := .int) dX7_coarsest_26 rfl rfl (Nat.le_refl 0) (Nat.le_refl 0) ⟨_, rfl, rfl, K⟩

set_option maxRecDepth 100000 in
set_option maxHeartbeats 4000000 in
theorem rX7_copy_0 {q : Int32 → zw_H → Prop} {h : zw_H} {v1 v2 : Int32} (K : (∃ q1 : Int32 → zw_H → Prop, zcI 0 mX7_isRegister [.int v2] h q1 ∧ (∀ (x1 : Int32) (h1 : zw_H), q1 x1 h1 → (∃ q2 : Int32 → zw_H → Prop, zcI 1 mX7_faultOf [.ref 0, .int v1, .int v1, .int x1] h1 q2 ∧ (∀ (x2 : Int32) (h2 : zw_H), q2 x2 h2 → ((x2 = 0 → (∃ j3 : Nat, v1 = nI j3 ∧ j3 < 8 ∧ (∃ q4 : Int32 → zw_H → Prop, zcI 4 mX7_put [.ref 0, .int v2, .int (h2.1 2 j3)] h2 q4 ∧ (∀ (x4 : Int32) (h4 : zw_H), q4 x4 h4 → q x4 h4)))) ∧ (¬ x2 = 0 → q x2 h2))))))) : zwI 5 mX7_copy q 0 [(0, .ref 0), (1, .int v1), (2, .int v2)] [] h := by
  refine zw_aload_n 0 dX7_copy_0 rfl rfl rfl ?_
  refine zw_iload_n 1 dX7_copy_1 rfl rfl rfl ?_
  refine zw_iload_n 1 dX7_copy_2 rfl rfl rfl ?_
  refine zw_iload_n 2 dX7_copy_3 rfl rfl rfl ?_
  obtain ⟨q1, ct, K⟩ := K
  refine zw_callS (n := 1) (As := [.int v2]) (rest := [.int v1, .int v1, .ref 0]) ct my_X7_isRegister rfl rfl k_X7_117 t_X7_isRegister dX7_copy_4 (by decide) (Nat.le_of_ble_eq_true rfl) (Nat.le_refl 0) (Nat.le_refl 0) rfl (fun r s1 h1 hq => ?_)
  obtain ⟨x1, rfl, rfl, hq⟩ := hq
  have K := K x1 h1 hq
  refine zw.st (st' := [.int x1, .int v1, .int v1, .ref 0]) rfl ?_
  obtain ⟨q2, ct, K⟩ := K
  refine zw_callV (n := 3) (As := [.int v1, .int v1, .int x1]) (rest := []) ct my_X7_faultOf rfl rfl k_X7_130 i_X7_faultOf s_X7_faultOf zs_0 rfl dX7_copy_7 (by decide) (Nat.le_of_ble_eq_true rfl) (Nat.le_refl 0) (Nat.le_refl 0) rfl (fun r s1 h2 hq => ?_)
  obtain ⟨x2, rfl, rfl, hq⟩ := hq
  have K := K x2 h2 hq
  refine zw.st (st' := [.int x2]) rfl ?_
  refine zw_istore_n dX7_copy_10 rfl (by decide) rfl rfl ?_
  refine zw_iload_n 0 dX7_copy_11 rfl rfl rfl ?_
  refine zw_if_eq (tg := 19) dX7_copy_12 (by decide) rfl (fun c => ?_) (fun c => ?_)
  · have K := K.1 c
    refine zw_aload_n 1 dX7_copy_19 rfl rfl rfl ?_
    refine zw_iload_n 3 dX7_copy_20 rfl rfl rfl ?_
    refine zw_aload_n 1 dX7_copy_21 rfl rfl rfl ?_
    refine zw_getR f_X7_10 dX7_copy_22 zs_0 rfl rfl ?_
    refine zw_getR f_X7_133 dX7_copy_25 zs_1 rfl rfl ?_
    refine zw_iload_n 2 dX7_copy_28 rfl rfl rfl ?_
    obtain ⟨j3, hj3, hn3, K⟩ := K
    refine zw_iald j3 dX7_copy_29 zs_2 ⟨hj3, hn3⟩ (by decide) rfl ?_
    obtain ⟨q4, ct, K⟩ := K
    refine zw_callV (n := 2) (As := [.int v2, .int (h2.1 2 j3)]) (rest := []) ct my_X7_put rfl rfl k_X7_124 i_X7_put s_X7_put zs_0 rfl dX7_copy_30 (by decide) (Nat.le_of_ble_eq_true rfl) (Nat.le_refl 0) (Nat.le_refl 0) rfl (fun r s1 h4 hq => ?_)
    obtain ⟨x4, rfl, rfl, hq⟩ := hq
    have K := K x4 h4 hq
    refine zw.st (st' := [.int x4]) rfl ?_
    exact zw_ireturn (ty := .int) dX7_copy_33 rfl rfl (Nat.le_refl 0) (Nat.le_refl 0) ⟨_, rfl, rfl, K⟩
  · have K := K.2 c
    refine zw_iload_n 0 dX7_copy_15 rfl rfl rfl ?_
    refine zw_goto (np := 33) dX7_copy_16 (by decide) ?_
    exact zw_ireturn (ty := .int) dX7_copy_33 rfl rfl (Nat.le_refl 0) (Nat.le_refl 0) ⟨_, rfl, rfl, K⟩

set_option maxRecDepth 100000 in
set_option maxHeartbeats 4000000 in
theorem rX7_meet_0 {q : Int32 → zw_H → Prop} {h : zw_H} {v1 v2 v3 : Int32} (K : (∃ q1 : Int32 → zw_H → Prop, zcI 0 mX7_isRegister [.int v3] h q1 ∧ (∀ (x1 : Int32) (h1 : zw_H), q1 x1 h1 → (∃ q2 : Int32 → zw_H → Prop, zcI 1 mX7_faultOf [.ref 0, .int v1, .int v2, .int x1] h1 q2 ∧ (∀ (x2 : Int32) (h2 : zw_H), q2 x2 h2 → ((x2 = 0 → (∃ j3 : Nat, v1 = nI j3 ∧ j3 < 8 ∧ (∃ j4 : Nat, v2 = nI j4 ∧ j4 < 8 ∧ (∃ q5 : Int32 → zw_H → Prop, zcI 4 mX7_put [.ref 0, .int v3, .int ((h2.1 2 j3) &&& (h2.1 2 j4))] h2 q5 ∧ (∀ (x5 : Int32) (h5 : zw_H), q5 x5 h5 → q x5 h5))))) ∧ (¬ x2 = 0 → q x2 h2))))))) : zwI 5 mX7_meet q 0 [(0, .ref 0), (1, .int v1), (2, .int v2), (3, .int v3)] [] h := by
  refine zw_aload_n 0 dX7_meet_0 rfl rfl rfl ?_
  refine zw_iload_n 1 dX7_meet_1 rfl rfl rfl ?_
  refine zw_iload_n 2 dX7_meet_2 rfl rfl rfl ?_
  refine zw_iload_n 3 dX7_meet_3 rfl rfl rfl ?_
  obtain ⟨q1, ct, K⟩ := K
  refine zw_callS (n := 1) (As := [.int v3]) (rest := [.int v2, .int v1, .ref 0]) ct my_X7_isRegister rfl rfl k_X7_117 t_X7_isRegister dX7_meet_4 (by decide) (Nat.le_of_ble_eq_true rfl) (Nat.le_refl 0) (Nat.le_refl 0) rfl (fun r s1 h1 hq => ?_)
  obtain ⟨x1, rfl, rfl, hq⟩ := hq
  have K := K x1 h1 hq
  refine zw.st (st' := [.int x1, .int v2, .int v1, .ref 0]) rfl ?_
  obtain ⟨q2, ct, K⟩ := K
  refine zw_callV (n := 3) (As := [.int v1, .int v2, .int x1]) (rest := []) ct my_X7_faultOf rfl rfl k_X7_130 i_X7_faultOf s_X7_faultOf zs_0 rfl dX7_meet_7 (by decide) (Nat.le_of_ble_eq_true rfl) (Nat.le_refl 0) (Nat.le_refl 0) rfl (fun r s1 h2 hq => ?_)
  obtain ⟨x2, rfl, rfl, hq⟩ := hq
  have K := K x2 h2 hq
  refine zw.st (st' := [.int x2]) rfl ?_
  refine zw_istore dX7_meet_10 (by decide) rfl rfl ?_
  refine zw_iload 0 dX7_meet_12 rfl rfl ?_
  refine zw_if_eq (tg := 22) dX7_meet_14 (by decide) rfl (fun c => ?_) (fun c => ?_)
  · have K := K.1 c
    refine zw_aload_n 1 dX7_meet_22 rfl rfl rfl ?_
    refine zw_iload_n 4 dX7_meet_23 rfl rfl rfl ?_
    refine zw_aload_n 1 dX7_meet_24 rfl rfl rfl ?_
    refine zw_getR f_X7_10 dX7_meet_25 zs_0 rfl rfl ?_
    refine zw_getR f_X7_133 dX7_meet_28 zs_1 rfl rfl ?_
    refine zw_iload_n 2 dX7_meet_31 rfl rfl rfl ?_
    obtain ⟨j3, hj3, hn3, K⟩ := K
    refine zw_iald j3 dX7_meet_32 zs_2 ⟨hj3, hn3⟩ (by decide) rfl ?_
    refine zw_aload_n 1 dX7_meet_33 rfl rfl rfl ?_
    refine zw_getR f_X7_10 dX7_meet_34 zs_0 rfl rfl ?_
    refine zw_getR f_X7_133 dX7_meet_37 zs_1 rfl rfl ?_
    refine zw_iload_n 3 dX7_meet_40 rfl rfl rfl ?_
    obtain ⟨j4, hj4, hn4, K⟩ := K
    refine zw_iald j4 dX7_meet_41 zs_2 ⟨hj4, hn4⟩ (by decide) rfl ?_
    refine zw_iand dX7_meet_42 rfl ?_
    obtain ⟨q5, ct, K⟩ := K
    refine zw_callV (n := 2) (As := [.int v3, .int ((h2.1 2 j3) &&& (h2.1 2 j4))]) (rest := []) ct my_X7_put rfl rfl k_X7_124 i_X7_put s_X7_put zs_0 rfl dX7_meet_43 (by decide) (Nat.le_of_ble_eq_true rfl) (Nat.le_refl 0) (Nat.le_refl 0) rfl (fun r s1 h5 hq => ?_)
    obtain ⟨x5, rfl, rfl, hq⟩ := hq
    have K := K x5 h5 hq
    refine zw.st (st' := [.int x5]) rfl ?_
    exact zw_ireturn (ty := .int) dX7_meet_46 rfl rfl (Nat.le_refl 0) (Nat.le_refl 0) ⟨_, rfl, rfl, K⟩
  · have K := K.2 c
    refine zw_iload 0 dX7_meet_17 rfl rfl ?_
    refine zw_goto (np := 46) dX7_meet_19 (by decide) ?_
    exact zw_ireturn (ty := .int) dX7_meet_46 rfl rfl (Nat.le_refl 0) (Nat.le_refl 0) ⟨_, rfl, rfl, K⟩

set_option maxRecDepth 100000 in
set_option maxHeartbeats 4000000 in
theorem rX7_join_0 {q : Int32 → zw_H → Prop} {h : zw_H} {v1 v2 v3 : Int32} (K : (∃ q1 : Int32 → zw_H → Prop, zcI 0 mX7_isRegister [.int v3] h q1 ∧ (∀ (x1 : Int32) (h1 : zw_H), q1 x1 h1 → (∃ q2 : Int32 → zw_H → Prop, zcI 1 mX7_faultOf [.ref 0, .int v1, .int v2, .int x1] h1 q2 ∧ (∀ (x2 : Int32) (h2 : zw_H), q2 x2 h2 → ((x2 = 0 → (∃ j3 : Nat, v1 = nI j3 ∧ j3 < 8 ∧ (∃ j4 : Nat, v2 = nI j4 ∧ j4 < 8 ∧ (∃ q5 : Int32 → zw_H → Prop, zcI 1 mX0_closure [.ref 27, .int ((h2.1 2 j3) ||| (h2.1 2 j4))] h2 q5 ∧ (∀ (x5 : Int32) (h5 : zw_H), q5 x5 h5 → (∃ q6 : Int32 → zw_H → Prop, zcI 4 mX7_put [.ref 0, .int v3, .int x5] h5 q6 ∧ (∀ (x6 : Int32) (h6 : zw_H), q6 x6 h6 → q x6 h6))))))) ∧ (¬ x2 = 0 → q x2 h2))))))) : zwI 5 mX7_join q 0 [(0, .ref 0), (1, .int v1), (2, .int v2), (3, .int v3)] [] h := by
  refine zw_aload_n 0 dX7_join_0 rfl rfl rfl ?_
  refine zw_iload_n 1 dX7_join_1 rfl rfl rfl ?_
  refine zw_iload_n 2 dX7_join_2 rfl rfl rfl ?_
  refine zw_iload_n 3 dX7_join_3 rfl rfl rfl ?_
  obtain ⟨q1, ct, K⟩ := K
  refine zw_callS (n := 1) (As := [.int v3]) (rest := [.int v2, .int v1, .ref 0]) ct my_X7_isRegister rfl rfl k_X7_117 t_X7_isRegister dX7_join_4 (by decide) (Nat.le_of_ble_eq_true rfl) (Nat.le_refl 0) (Nat.le_refl 0) rfl (fun r s1 h1 hq => ?_)
  obtain ⟨x1, rfl, rfl, hq⟩ := hq
  have K := K x1 h1 hq
  refine zw.st (st' := [.int x1, .int v2, .int v1, .ref 0]) rfl ?_
  obtain ⟨q2, ct, K⟩ := K
  refine zw_callV (n := 3) (As := [.int v1, .int v2, .int x1]) (rest := []) ct my_X7_faultOf rfl rfl k_X7_130 i_X7_faultOf s_X7_faultOf zs_0 rfl dX7_join_7 (by decide) (Nat.le_of_ble_eq_true rfl) (Nat.le_refl 0) (Nat.le_refl 0) rfl (fun r s1 h2 hq => ?_)
  obtain ⟨x2, rfl, rfl, hq⟩ := hq
  have K := K x2 h2 hq
  refine zw.st (st' := [.int x2]) rfl ?_
  refine zw_istore dX7_join_10 (by decide) rfl rfl ?_
  refine zw_iload 0 dX7_join_12 rfl rfl ?_
  refine zw_if_eq (tg := 20) dX7_join_14 (by decide) rfl (fun c => ?_) (fun c => ?_)
  · have K := K.1 c
    refine zw_aload_n 1 dX7_join_20 rfl rfl rfl ?_
    refine zw_iload_n 4 dX7_join_21 rfl rfl rfl ?_
    refine zw_aload_n 1 dX7_join_22 rfl rfl rfl ?_
    refine zw_getR f_X7_33 dX7_join_23 zs_0 rfl rfl ?_
    refine zw_aload_n 1 dX7_join_26 rfl rfl rfl ?_
    refine zw_getR f_X7_10 dX7_join_27 zs_0 rfl rfl ?_
    refine zw_getR f_X7_133 dX7_join_30 zs_1 rfl rfl ?_
    refine zw_iload_n 2 dX7_join_33 rfl rfl rfl ?_
    obtain ⟨j3, hj3, hn3, K⟩ := K
    refine zw_iald j3 dX7_join_34 zs_2 ⟨hj3, hn3⟩ (by decide) rfl ?_
    refine zw_aload_n 1 dX7_join_35 rfl rfl rfl ?_
    refine zw_getR f_X7_10 dX7_join_36 zs_0 rfl rfl ?_
    refine zw_getR f_X7_133 dX7_join_39 zs_1 rfl rfl ?_
    refine zw_iload_n 3 dX7_join_42 rfl rfl rfl ?_
    obtain ⟨j4, hj4, hn4, K⟩ := K
    refine zw_iald j4 dX7_join_43 zs_2 ⟨hj4, hn4⟩ (by decide) rfl ?_
    refine zw_ior dX7_join_44 rfl ?_
    obtain ⟨q5, ct, K⟩ := K
    refine zw_callV (n := 1) (As := [.int ((h2.1 2 j3) ||| (h2.1 2 j4))]) (rest := [.int v3, .ref 0]) ct my_X0_closure rfl rfl k_X7_136 i_X0_closure s_X0_closure zs_27 rfl dX7_join_45 (by decide) (Nat.le_of_ble_eq_true rfl) (Nat.le_refl 0) (Nat.le_refl 0) rfl (fun r s1 h5 hq => ?_)
    obtain ⟨x5, rfl, rfl, hq⟩ := hq
    have K := K x5 h5 hq
    refine zw.st (st' := [.int x5, .int v3, .ref 0]) rfl ?_
    obtain ⟨q6, ct, K⟩ := K
    refine zw_callV (n := 2) (As := [.int v3, .int x5]) (rest := []) ct my_X7_put rfl rfl k_X7_124 i_X7_put s_X7_put zs_0 rfl dX7_join_48 (by decide) (Nat.le_of_ble_eq_true rfl) (Nat.le_refl 0) (Nat.le_refl 0) rfl (fun r s1 h6 hq => ?_)
    obtain ⟨x6, rfl, rfl, hq⟩ := hq
    have K := K x6 h6 hq
    refine zw.st (st' := [.int x6]) rfl ?_
    exact zw_ireturn (ty := .int) dX7_join_51 rfl rfl (Nat.le_refl 0) (Nat.le_refl 0) ⟨_, rfl, rfl, K⟩
  · have K := K.2 c
    refine zw_iload 0 dX7_join_17 rfl rfl ?_
    exact zw_ireturn (ty := .int) dX7_join_19 rfl rfl (Nat.le_refl 0) (Nat.le_refl 0) ⟨_, rfl, rfl, K⟩

set_option maxRecDepth 100000 in
set_option maxHeartbeats 4000000 in
theorem rX7_unite_0 {q : Int32 → zw_H → Prop} {h : zw_H} {v1 v2 v3 : Int32} (K : (∃ q1 : Int32 → zw_H → Prop, zcI 0 mX7_isElement [.ref 0, .int v2] h q1 ∧ (∀ (x1 : Int32) (h1 : zw_H), q1 x1 h1 → ((x1 = 0 → (∃ q2 : Int32 → zw_H → Prop, zcI 1 mX7_faultOf [.ref 0, .int v1, .int v1, .int (0 : Int32)] h1 q2 ∧ (∀ (x2 : Int32) (h2 : zw_H), q2 x2 h2 → ((x2 = 0 → (∃ j3 : Nat, v1 = nI j3 ∧ j3 < 8 ∧ (∃ q4 : Int32 → zw_H → Prop, zcI 0 mX7_pairBit [.int v2, .int v3] h2 q4 ∧ (∀ (x4 : Int32) (h4 : zw_H), q4 x4 h4 → (∃ q5 : Int32 → zw_H → Prop, zcI 1 mX0_closure [.ref 27, .int ((h2.1 2 j3) ||| x4)] h4 q5 ∧ (∀ (x5 : Int32) (h5 : zw_H), q5 x5 h5 → (∃ q6 : Int32 → zw_H → Prop, zcI 4 mX7_put [.ref 0, .int v1, .int x5] h5 q6 ∧ (∀ (x6 : Int32) (h6 : zw_H), q6 x6 h6 → q x6 h6)))))))) ∧ (¬ x2 = 0 → q x2 h2))))) ∧ (¬ x1 = 0 → (∃ q7 : Int32 → zw_H → Prop, zcI 0 mX7_isElement [.ref 0, .int v3] h1 q7 ∧ (∀ (x7 : Int32) (h7 : zw_H), q7 x7 h7 → ((x7 = 0 → (∃ q8 : Int32 → zw_H → Prop, zcI 1 mX7_faultOf [.ref 0, .int v1, .int v1, .int (0 : Int32)] h7 q8 ∧ (∀ (x8 : Int32) (h8 : zw_H), q8 x8 h8 → ((x8 = 0 → (∃ j9 : Nat, v1 = nI j9 ∧ j9 < 8 ∧ (∃ q10 : Int32 → zw_H → Prop, zcI 0 mX7_pairBit [.int v2, .int v3] h8 q10 ∧ (∀ (x10 : Int32) (h10 : zw_H), q10 x10 h10 → (∃ q11 : Int32 → zw_H → Prop, zcI 1 mX0_closure [.ref 27, .int ((h8.1 2 j9) ||| x10)] h10 q11 ∧ (∀ (x11 : Int32) (h11 : zw_H), q11 x11 h11 → (∃ q12 : Int32 → zw_H → Prop, zcI 4 mX7_put [.ref 0, .int v1, .int x11] h11 q12 ∧ (∀ (x12 : Int32) (h12 : zw_H), q12 x12 h12 → q x12 h12)))))))) ∧ (¬ x8 = 0 → q x8 h8))))) ∧ (¬ x7 = 0 → (∃ q13 : Int32 → zw_H → Prop, zcI 1 mX7_faultOf [.ref 0, .int v1, .int v1, .int (1 : Int32)] h7 q13 ∧ (∀ (x13 : Int32) (h13 : zw_H), q13 x13 h13 → ((x13 = 0 → (∃ j14 : Nat, v1 = nI j14 ∧ j14 < 8 ∧ (∃ q15 : Int32 → zw_H → Prop, zcI 0 mX7_pairBit [.int v2, .int v3] h13 q15 ∧ (∀ (x15 : Int32) (h15 : zw_H), q15 x15 h15 → (∃ q16 : Int32 → zw_H → Prop, zcI 1 mX0_closure [.ref 27, .int ((h13.1 2 j14) ||| x15)] h15 q16 ∧ (∀ (x16 : Int32) (h16 : zw_H), q16 x16 h16 → (∃ q17 : Int32 → zw_H → Prop, zcI 4 mX7_put [.ref 0, .int v1, .int x16] h16 q17 ∧ (∀ (x17 : Int32) (h17 : zw_H), q17 x17 h17 → q x17 h17)))))))) ∧ (¬ x13 = 0 → q x13 h13))))))))))))) : zwI 5 mX7_unite q 0 [(0, .ref 0), (1, .int v1), (2, .int v2), (3, .int v3)] [] h := by
  refine zw_aload_n 0 dX7_unite_0 rfl rfl rfl ?_
  refine zw_iload_n 1 dX7_unite_1 rfl rfl rfl ?_
  refine zw_iload_n 1 dX7_unite_2 rfl rfl rfl ?_
  refine zw_aload_n 0 dX7_unite_3 rfl rfl rfl ?_
  refine zw_iload_n 2 dX7_unite_4 rfl rfl rfl ?_
  obtain ⟨q1, ct, K⟩ := K
  refine zw_callV (n := 1) (As := [.int v2]) (rest := [.int v1, .int v1, .ref 0]) ct my_X7_isElement rfl rfl k_X7_93 i_X7_isElement s_X7_isElement zs_0 rfl dX7_unite_5 (by decide) (Nat.le_of_ble_eq_true rfl) (Nat.le_refl 0) (Nat.le_refl 0) rfl (fun r s1 h1 hq => ?_)
  obtain ⟨x1, rfl, rfl, hq⟩ := hq
  have K := K x1 h1 hq
  refine zw.st (st' := [.int x1, .int v1, .int v1, .ref 0]) rfl ?_
  refine zw_if_eq (tg := 23) dX7_unite_8 (by decide) rfl (fun c => ?_) (fun c => ?_)
  · have K := K.1 c
    refine zw_iconst (v := (0 : Int32)) dX7_unite_23 (by decide) rfl ?_
    obtain ⟨q2, ct, K⟩ := K
    refine zw_callV (n := 3) (As := [.int v1, .int v1, .int (0 : Int32)]) (rest := []) ct my_X7_faultOf rfl rfl k_X7_130 i_X7_faultOf s_X7_faultOf zs_0 rfl dX7_unite_24 (by decide) (Nat.le_of_ble_eq_true rfl) (Nat.le_refl 0) (Nat.le_refl 0) rfl (fun r s1 h2 hq => ?_)
    obtain ⟨x2, rfl, rfl, hq⟩ := hq
    have K := K x2 h2 hq
    refine zw.st (st' := [.int x2]) rfl ?_
    refine zw_istore dX7_unite_27 (by decide) rfl rfl ?_
    refine zw_iload 0 dX7_unite_29 rfl rfl ?_
    refine zw_if_eq (tg := 37) dX7_unite_31 (by decide) rfl (fun c => ?_) (fun c => ?_)
    · have K := K.1 c
      refine zw_aload_n 1 dX7_unite_37 rfl rfl rfl ?_
      refine zw_iload_n 2 dX7_unite_38 rfl rfl rfl ?_
      refine zw_aload_n 1 dX7_unite_39 rfl rfl rfl ?_
      refine zw_getR f_X7_33 dX7_unite_40 zs_0 rfl rfl ?_
      refine zw_aload_n 1 dX7_unite_43 rfl rfl rfl ?_
      refine zw_getR f_X7_10 dX7_unite_44 zs_0 rfl rfl ?_
      refine zw_getR f_X7_133 dX7_unite_47 zs_1 rfl rfl ?_
      refine zw_iload_n 2 dX7_unite_50 rfl rfl rfl ?_
      obtain ⟨j3, hj3, hn3, K⟩ := K
      refine zw_iald j3 dX7_unite_51 zs_2 ⟨hj3, hn3⟩ (by decide) rfl ?_
      refine zw_iload_n 3 dX7_unite_52 rfl rfl rfl ?_
      refine zw_iload_n 4 dX7_unite_53 rfl rfl rfl ?_
      obtain ⟨q4, ct, K⟩ := K
      refine zw_callS (n := 2) (As := [.int v2, .int v3]) (rest := [.int (h2.1 2 j3), .ref 27, .int v1, .ref 0]) ct my_X7_pairBit rfl rfl k_X7_97 t_X7_pairBit dX7_unite_54 (by decide) (Nat.le_of_ble_eq_true rfl) (Nat.le_refl 0) (Nat.le_refl 0) rfl (fun r s1 h4 hq => ?_)
      obtain ⟨x4, rfl, rfl, hq⟩ := hq
      have K := K x4 h4 hq
      refine zw.st (st' := [.int x4, .int (h2.1 2 j3), .ref 27, .int v1, .ref 0]) rfl ?_
      refine zw_ior dX7_unite_57 rfl ?_
      obtain ⟨q5, ct, K⟩ := K
      refine zw_callV (n := 1) (As := [.int ((h2.1 2 j3) ||| x4)]) (rest := [.int v1, .ref 0]) ct my_X0_closure rfl rfl k_X7_136 i_X0_closure s_X0_closure zs_27 rfl dX7_unite_58 (by decide) (Nat.le_of_ble_eq_true rfl) (Nat.le_refl 0) (Nat.le_refl 0) rfl (fun r s1 h5 hq => ?_)
      obtain ⟨x5, rfl, rfl, hq⟩ := hq
      have K := K x5 h5 hq
      refine zw.st (st' := [.int x5, .int v1, .ref 0]) rfl ?_
      obtain ⟨q6, ct, K⟩ := K
      refine zw_callV (n := 2) (As := [.int v1, .int x5]) (rest := []) ct my_X7_put rfl rfl k_X7_124 i_X7_put s_X7_put zs_0 rfl dX7_unite_61 (by decide) (Nat.le_of_ble_eq_true rfl) (Nat.le_refl 0) (Nat.le_refl 0) rfl (fun r s1 h6 hq => ?_)
      obtain ⟨x6, rfl, rfl, hq⟩ := hq
      have K := K x6 h6 hq
      refine zw.st (st' := [.int x6]) rfl ?_
      exact zw_ireturn (ty := .int) dX7_unite_64 rfl rfl (Nat.le_refl 0) (Nat.le_refl 0) ⟨_, rfl, rfl, K⟩
    · have K := K.2 c
      refine zw_iload 0 dX7_unite_34 rfl rfl ?_
      exact zw_ireturn (ty := .int) dX7_unite_36 rfl rfl (Nat.le_refl 0) (Nat.le_refl 0) ⟨_, rfl, rfl, K⟩
  · have K := K.2 c
    refine zw_aload_n 0 dX7_unite_11 rfl rfl rfl ?_
    refine zw_iload_n 3 dX7_unite_12 rfl rfl rfl ?_
    obtain ⟨q7, ct, K⟩ := K
    refine zw_callV (n := 1) (As := [.int v3]) (rest := [.int v1, .int v1, .ref 0]) ct my_X7_isElement rfl rfl k_X7_93 i_X7_isElement s_X7_isElement zs_0 rfl dX7_unite_13 (by decide) (Nat.le_of_ble_eq_true rfl) (Nat.le_refl 0) (Nat.le_refl 0) rfl (fun r s1 h7 hq => ?_)
    obtain ⟨x7, rfl, rfl, hq⟩ := hq
    have K := K x7 h7 hq
    refine zw.st (st' := [.int x7, .int v1, .int v1, .ref 0]) rfl ?_
    refine zw_if_eq (tg := 23) dX7_unite_16 (by decide) rfl (fun c => ?_) (fun c => ?_)
    · have K := K.1 c
      refine zw_iconst (v := (0 : Int32)) dX7_unite_23 (by decide) rfl ?_
      obtain ⟨q8, ct, K⟩ := K
      refine zw_callV (n := 3) (As := [.int v1, .int v1, .int (0 : Int32)]) (rest := []) ct my_X7_faultOf rfl rfl k_X7_130 i_X7_faultOf s_X7_faultOf zs_0 rfl dX7_unite_24 (by decide) (Nat.le_of_ble_eq_true rfl) (Nat.le_refl 0) (Nat.le_refl 0) rfl (fun r s1 h8 hq => ?_)
      obtain ⟨x8, rfl, rfl, hq⟩ := hq
      have K := K x8 h8 hq
      refine zw.st (st' := [.int x8]) rfl ?_
      refine zw_istore dX7_unite_27 (by decide) rfl rfl ?_
      refine zw_iload 0 dX7_unite_29 rfl rfl ?_
      refine zw_if_eq (tg := 37) dX7_unite_31 (by decide) rfl (fun c => ?_) (fun c => ?_)
      · have K := K.1 c
        refine zw_aload_n 1 dX7_unite_37 rfl rfl rfl ?_
        refine zw_iload_n 2 dX7_unite_38 rfl rfl rfl ?_
        refine zw_aload_n 1 dX7_unite_39 rfl rfl rfl ?_
        refine zw_getR f_X7_33 dX7_unite_40 zs_0 rfl rfl ?_
        refine zw_aload_n 1 dX7_unite_43 rfl rfl rfl ?_
        refine zw_getR f_X7_10 dX7_unite_44 zs_0 rfl rfl ?_
        refine zw_getR f_X7_133 dX7_unite_47 zs_1 rfl rfl ?_
        refine zw_iload_n 2 dX7_unite_50 rfl rfl rfl ?_
        obtain ⟨j9, hj9, hn9, K⟩ := K
        refine zw_iald j9 dX7_unite_51 zs_2 ⟨hj9, hn9⟩ (by decide) rfl ?_
        refine zw_iload_n 3 dX7_unite_52 rfl rfl rfl ?_
        refine zw_iload_n 4 dX7_unite_53 rfl rfl rfl ?_
        obtain ⟨q10, ct, K⟩ := K
        refine zw_callS (n := 2) (As := [.int v2, .int v3]) (rest := [.int (h8.1 2 j9), .ref 27, .int v1, .ref 0]) ct my_X7_pairBit rfl rfl k_X7_97 t_X7_pairBit dX7_unite_54 (by decide) (Nat.le_of_ble_eq_true rfl) (Nat.le_refl 0) (Nat.le_refl 0) rfl (fun r s1 h10 hq => ?_)
        obtain ⟨x10, rfl, rfl, hq⟩ := hq
        have K := K x10 h10 hq
        refine zw.st (st' := [.int x10, .int (h8.1 2 j9), .ref 27, .int v1, .ref 0]) rfl ?_
        refine zw_ior dX7_unite_57 rfl ?_
        obtain ⟨q11, ct, K⟩ := K
        refine zw_callV (n := 1) (As := [.int ((h8.1 2 j9) ||| x10)]) (rest := [.int v1, .ref 0]) ct my_X0_closure rfl rfl k_X7_136 i_X0_closure s_X0_closure zs_27 rfl dX7_unite_58 (by decide) (Nat.le_of_ble_eq_true rfl) (Nat.le_refl 0) (Nat.le_refl 0) rfl (fun r s1 h11 hq => ?_)
        obtain ⟨x11, rfl, rfl, hq⟩ := hq
        have K := K x11 h11 hq
        refine zw.st (st' := [.int x11, .int v1, .ref 0]) rfl ?_
        obtain ⟨q12, ct, K⟩ := K
        refine zw_callV (n := 2) (As := [.int v1, .int x11]) (rest := []) ct my_X7_put rfl rfl k_X7_124 i_X7_put s_X7_put zs_0 rfl dX7_unite_61 (by decide) (Nat.le_of_ble_eq_true rfl) (Nat.le_refl 0) (Nat.le_refl 0) rfl (fun r s1 h12 hq => ?_)
        obtain ⟨x12, rfl, rfl, hq⟩ := hq
        have K := K x12 h12 hq
        refine zw.st (st' := [.int x12]) rfl ?_
        exact zw_ireturn (ty := .int) dX7_unite_64 rfl rfl (Nat.le_refl 0) (Nat.le_refl 0) ⟨_, rfl, rfl, K⟩
      · have K := K.2 c
        refine zw_iload 0 dX7_unite_34 rfl rfl ?_
        exact zw_ireturn (ty := .int) dX7_unite_36 rfl rfl (Nat.le_refl 0) (Nat.le_refl 0) ⟨_, rfl, rfl, K⟩
    · have K := K.2 c
      refine zw_iconst (v := (1 : Int32)) dX7_unite_19 (by decide) rfl ?_
      refine zw_goto (np := 24) dX7_unite_20 (by decide) ?_
      obtain ⟨q13, ct, K⟩ := K
      refine zw_callV (n := 3) (As := [.int v1, .int v1, .int (1 : Int32)]) (rest := []) ct my_X7_faultOf rfl rfl k_X7_130 i_X7_faultOf s_X7_faultOf zs_0 rfl dX7_unite_24 (by decide) (Nat.le_of_ble_eq_true rfl) (Nat.le_refl 0) (Nat.le_refl 0) rfl (fun r s1 h13 hq => ?_)
      obtain ⟨x13, rfl, rfl, hq⟩ := hq
      have K := K x13 h13 hq
      refine zw.st (st' := [.int x13]) rfl ?_
      refine zw_istore dX7_unite_27 (by decide) rfl rfl ?_
      refine zw_iload 0 dX7_unite_29 rfl rfl ?_
      refine zw_if_eq (tg := 37) dX7_unite_31 (by decide) rfl (fun c => ?_) (fun c => ?_)
      · have K := K.1 c
        refine zw_aload_n 1 dX7_unite_37 rfl rfl rfl ?_
        refine zw_iload_n 2 dX7_unite_38 rfl rfl rfl ?_
        refine zw_aload_n 1 dX7_unite_39 rfl rfl rfl ?_
        refine zw_getR f_X7_33 dX7_unite_40 zs_0 rfl rfl ?_
        refine zw_aload_n 1 dX7_unite_43 rfl rfl rfl ?_
        refine zw_getR f_X7_10 dX7_unite_44 zs_0 rfl rfl ?_
        refine zw_getR f_X7_133 dX7_unite_47 zs_1 rfl rfl ?_
        refine zw_iload_n 2 dX7_unite_50 rfl rfl rfl ?_
        obtain ⟨j14, hj14, hn14, K⟩ := K
        refine zw_iald j14 dX7_unite_51 zs_2 ⟨hj14, hn14⟩ (by decide) rfl ?_
        refine zw_iload_n 3 dX7_unite_52 rfl rfl rfl ?_
        refine zw_iload_n 4 dX7_unite_53 rfl rfl rfl ?_
        obtain ⟨q15, ct, K⟩ := K
        refine zw_callS (n := 2) (As := [.int v2, .int v3]) (rest := [.int (h13.1 2 j14), .ref 27, .int v1, .ref 0]) ct my_X7_pairBit rfl rfl k_X7_97 t_X7_pairBit dX7_unite_54 (by decide) (Nat.le_of_ble_eq_true rfl) (Nat.le_refl 0) (Nat.le_refl 0) rfl (fun r s1 h15 hq => ?_)
        obtain ⟨x15, rfl, rfl, hq⟩ := hq
        have K := K x15 h15 hq
        refine zw.st (st' := [.int x15, .int (h13.1 2 j14), .ref 27, .int v1, .ref 0]) rfl ?_
        refine zw_ior dX7_unite_57 rfl ?_
        obtain ⟨q16, ct, K⟩ := K
        refine zw_callV (n := 1) (As := [.int ((h13.1 2 j14) ||| x15)]) (rest := [.int v1, .ref 0]) ct my_X0_closure rfl rfl k_X7_136 i_X0_closure s_X0_closure zs_27 rfl dX7_unite_58 (by decide) (Nat.le_of_ble_eq_true rfl) (Nat.le_refl 0) (Nat.le_refl 0) rfl (fun r s1 h16 hq => ?_)
        obtain ⟨x16, rfl, rfl, hq⟩ := hq
        have K := K x16 h16 hq
        refine zw.st (st' := [.int x16, .int v1, .ref 0]) rfl ?_
        obtain ⟨q17, ct, K⟩ := K
        refine zw_callV (n := 2) (As := [.int v1, .int x16]) (rest := []) ct my_X7_put rfl rfl k_X7_124 i_X7_put s_X7_put zs_0 rfl dX7_unite_61 (by decide) (Nat.le_of_ble_eq_true rfl) (Nat.le_refl 0) (Nat.le_refl 0) rfl (fun r s1 h17 hq => ?_)
        obtain ⟨x17, rfl, rfl, hq⟩ := hq
        have K := K x17 h17 hq
        refine zw.st (st' := [.int x17]) rfl ?_
        exact zw_ireturn (ty := .int) dX7_unite_64 rfl rfl (Nat.le_refl 0) (Nat.le_refl 0) ⟨_, rfl, rfl, K⟩
      · have K := K.2 c
        refine zw_iload 0 dX7_unite_34 rfl rfl ?_
        exact zw_ireturn (ty := .int) dX7_unite_36 rfl rfl (Nat.le_refl 0) (Nat.le_refl 0) ⟨_, rfl, rfl, K⟩

set_option maxRecDepth 100000 in
set_option maxHeartbeats 4000000 in
theorem rX7_isolate_0 {q : Int32 → zw_H → Prop} {h : zw_H} {v1 v2 : Int32} (K : (∃ q1 : Int32 → zw_H → Prop, zcI 0 mX7_isElement [.ref 0, .int v2] h q1 ∧ (∀ (x1 : Int32) (h1 : zw_H), q1 x1 h1 → (∃ q2 : Int32 → zw_H → Prop, zcI 1 mX7_faultOf [.ref 0, .int v1, .int v1, .int x1] h1 q2 ∧ (∀ (x2 : Int32) (h2 : zw_H), q2 x2 h2 → ((x2 = 0 → (∃ j3 : Nat, v1 = nI j3 ∧ j3 < 8 ∧ (∃ q4 : Int32 → zw_H → Prop, zcI 1 mX7_pairsWith [.int (63 : Int32), .int v2] h2 q4 ∧ (∀ (x4 : Int32) (h4 : zw_H), q4 x4 h4 → (∃ q5 : Int32 → zw_H → Prop, zcI 4 mX7_put [.ref 0, .int v1, .int ((h2.1 2 j3) &&& (x4 ^^^ (-1 : Int32)))] h4 q5 ∧ (∀ (x5 : Int32) (h5 : zw_H), q5 x5 h5 → q x5 h5)))))) ∧ (¬ x2 = 0 → q x2 h2))))))) : zwI 5 mX7_isolate q 0 [(0, .ref 0), (1, .int v1), (2, .int v2)] [] h := by
  refine zw_aload_n 0 dX7_isolate_0 rfl rfl rfl ?_
  refine zw_iload_n 1 dX7_isolate_1 rfl rfl rfl ?_
  refine zw_iload_n 1 dX7_isolate_2 rfl rfl rfl ?_
  refine zw_aload_n 0 dX7_isolate_3 rfl rfl rfl ?_
  refine zw_iload_n 2 dX7_isolate_4 rfl rfl rfl ?_
  obtain ⟨q1, ct, K⟩ := K
  refine zw_callV (n := 1) (As := [.int v2]) (rest := [.int v1, .int v1, .ref 0]) ct my_X7_isElement rfl rfl k_X7_93 i_X7_isElement s_X7_isElement zs_0 rfl dX7_isolate_5 (by decide) (Nat.le_of_ble_eq_true rfl) (Nat.le_refl 0) (Nat.le_refl 0) rfl (fun r s1 h1 hq => ?_)
  obtain ⟨x1, rfl, rfl, hq⟩ := hq
  have K := K x1 h1 hq
  refine zw.st (st' := [.int x1, .int v1, .int v1, .ref 0]) rfl ?_
  obtain ⟨q2, ct, K⟩ := K
  refine zw_callV (n := 3) (As := [.int v1, .int v1, .int x1]) (rest := []) ct my_X7_faultOf rfl rfl k_X7_130 i_X7_faultOf s_X7_faultOf zs_0 rfl dX7_isolate_8 (by decide) (Nat.le_of_ble_eq_true rfl) (Nat.le_refl 0) (Nat.le_refl 0) rfl (fun r s1 h2 hq => ?_)
  obtain ⟨x2, rfl, rfl, hq⟩ := hq
  have K := K x2 h2 hq
  refine zw.st (st' := [.int x2]) rfl ?_
  refine zw_istore_n dX7_isolate_11 rfl (by decide) rfl rfl ?_
  refine zw_iload_n 0 dX7_isolate_12 rfl rfl rfl ?_
  refine zw_if_eq (tg := 18) dX7_isolate_13 (by decide) rfl (fun c => ?_) (fun c => ?_)
  · have K := K.1 c
    refine zw_bipush (v := (63 : Int32)) dX7_isolate_18 (by decide) rfl ?_
    refine zw_istore dX7_isolate_20 (by decide) rfl rfl ?_
    refine zw_aload_n 2 dX7_isolate_22 rfl rfl rfl ?_
    refine zw_iload_n 3 dX7_isolate_23 rfl rfl rfl ?_
    refine zw_aload_n 2 dX7_isolate_24 rfl rfl rfl ?_
    refine zw_getR f_X7_10 dX7_isolate_25 zs_0 rfl rfl ?_
    refine zw_getR f_X7_133 dX7_isolate_28 zs_1 rfl rfl ?_
    refine zw_iload_n 3 dX7_isolate_31 rfl rfl rfl ?_
    obtain ⟨j3, hj3, hn3, K⟩ := K
    refine zw_iald j3 dX7_isolate_32 zs_2 ⟨hj3, hn3⟩ (by decide) rfl ?_
    refine zw_iload 0 dX7_isolate_33 rfl rfl ?_
    refine zw_iload_n 4 dX7_isolate_35 rfl rfl rfl ?_
    obtain ⟨q4, ct, K⟩ := K
    refine zw_callS (n := 2) (As := [.int (63 : Int32), .int v2]) (rest := [.int (h2.1 2 j3), .int v1, .ref 0]) ct my_X7_pairsWith rfl rfl k_X7_139 t_X7_pairsWith dX7_isolate_36 (by decide) (Nat.le_of_ble_eq_true rfl) (Nat.le_refl 0) (Nat.le_refl 0) rfl (fun r s1 h4 hq => ?_)
    obtain ⟨x4, rfl, rfl, hq⟩ := hq
    have K := K x4 h4 hq
    refine zw.st (st' := [.int x4, .int (h2.1 2 j3), .int v1, .ref 0]) rfl ?_
    refine zw_iconst (v := (-1 : Int32)) dX7_isolate_39 (by decide) rfl ?_
    refine zw_ixor dX7_isolate_40 rfl ?_
    refine zw_iand dX7_isolate_41 rfl ?_
    obtain ⟨q5, ct, K⟩ := K
    refine zw_callV (n := 2) (As := [.int v1, .int ((h2.1 2 j3) &&& (x4 ^^^ (-1 : Int32)))]) (rest := []) ct my_X7_put rfl rfl k_X7_124 i_X7_put s_X7_put zs_0 rfl dX7_isolate_42 (by decide) (Nat.le_of_ble_eq_true rfl) (Nat.le_refl 0) (Nat.le_refl 0) rfl (fun r s1 h5 hq => ?_)
    obtain ⟨x5, rfl, rfl, hq⟩ := hq
    have K := K x5 h5 hq
    refine zw.st (st' := [.int x5]) rfl ?_
    exact zw_ireturn (ty := .int) dX7_isolate_45 rfl rfl (Nat.le_refl 0) (Nat.le_refl 0) ⟨_, rfl, rfl, K⟩
  · have K := K.2 c
    refine zw_iload_n 0 dX7_isolate_16 rfl rfl rfl ?_
    exact zw_ireturn (ty := .int) dX7_isolate_17 rfl rfl (Nat.le_refl 0) (Nat.le_refl 0) ⟨_, rfl, rfl, K⟩

set_option maxRecDepth 100000 in
set_option maxHeartbeats 4000000 in
theorem rX7_swap_0 {q : Int32 → zw_H → Prop} {h : zw_H} {v1 v2 v3 : Int32} (K : (∃ q1 : Int32 → zw_H → Prop, zcI 0 mX7_isElement [.ref 0, .int v2] h q1 ∧ (∀ (x1 : Int32) (h1 : zw_H), q1 x1 h1 → ((x1 = 0 → (∃ q2 : Int32 → zw_H → Prop, zcI 1 mX7_faultOf [.ref 0, .int v1, .int v1, .int (0 : Int32)] h1 q2 ∧ (∀ (x2 : Int32) (h2 : zw_H), q2 x2 h2 → ((x2 = 0 → zwI 6 mX7_swap q 40 [(0, .ref 0), (1, .int v1), (2, .int v2), (3, .int v3), (5, .int (0 : Int32))] [] h2) ∧ (¬ x2 = 0 → q x2 h2))))) ∧ (¬ x1 = 0 → (∃ q3 : Int32 → zw_H → Prop, zcI 0 mX7_isElement [.ref 0, .int v3] h1 q3 ∧ (∀ (x3 : Int32) (h3 : zw_H), q3 x3 h3 → ((x3 = 0 → (∃ q4 : Int32 → zw_H → Prop, zcI 1 mX7_faultOf [.ref 0, .int v1, .int v1, .int (0 : Int32)] h3 q4 ∧ (∀ (x4 : Int32) (h4 : zw_H), q4 x4 h4 → ((x4 = 0 → zwI 6 mX7_swap q 40 [(0, .ref 0), (1, .int v1), (2, .int v2), (3, .int v3), (5, .int (0 : Int32))] [] h4) ∧ (¬ x4 = 0 → q x4 h4))))) ∧ (¬ x3 = 0 → (∃ q5 : Int32 → zw_H → Prop, zcI 1 mX7_faultOf [.ref 0, .int v1, .int v1, .int (1 : Int32)] h3 q5 ∧ (∀ (x5 : Int32) (h5 : zw_H), q5 x5 h5 → ((x5 = 0 → zwI 6 mX7_swap q 40 [(0, .ref 0), (1, .int v1), (2, .int v2), (3, .int v3), (5, .int (0 : Int32))] [] h5) ∧ (¬ x5 = 0 → q x5 h5))))))))))))) : zwI 6 mX7_swap q 0 [(0, .ref 0), (1, .int v1), (2, .int v2), (3, .int v3)] [] h := by
  refine zw_aload_n 0 dX7_swap_0 rfl rfl rfl ?_
  refine zw_iload_n 1 dX7_swap_1 rfl rfl rfl ?_
  refine zw_iload_n 1 dX7_swap_2 rfl rfl rfl ?_
  refine zw_aload_n 0 dX7_swap_3 rfl rfl rfl ?_
  refine zw_iload_n 2 dX7_swap_4 rfl rfl rfl ?_
  obtain ⟨q1, ct, K⟩ := K
  refine zw_callV (n := 1) (As := [.int v2]) (rest := [.int v1, .int v1, .ref 0]) ct my_X7_isElement rfl rfl k_X7_93 i_X7_isElement s_X7_isElement zs_0 rfl dX7_swap_5 (by decide) (Nat.le_of_ble_eq_true rfl) (Nat.le_refl 0) (Nat.le_refl 0) rfl (fun r s1 h1 hq => ?_)
  obtain ⟨x1, rfl, rfl, hq⟩ := hq
  have K := K x1 h1 hq
  refine zw.st (st' := [.int x1, .int v1, .int v1, .ref 0]) rfl ?_
  refine zw_if_eq (tg := 23) dX7_swap_8 (by decide) rfl (fun c => ?_) (fun c => ?_)
  · have K := K.1 c
    refine zw_iconst (v := (0 : Int32)) dX7_swap_23 (by decide) rfl ?_
    obtain ⟨q2, ct, K⟩ := K
    refine zw_callV (n := 3) (As := [.int v1, .int v1, .int (0 : Int32)]) (rest := []) ct my_X7_faultOf rfl rfl k_X7_130 i_X7_faultOf s_X7_faultOf zs_0 rfl dX7_swap_24 (by decide) (Nat.le_of_ble_eq_true rfl) (Nat.le_refl 0) (Nat.le_refl 0) rfl (fun r s1 h2 hq => ?_)
    obtain ⟨x2, rfl, rfl, hq⟩ := hq
    have K := K x2 h2 hq
    refine zw.st (st' := [.int x2]) rfl ?_
    refine zw_istore dX7_swap_27 (by decide) rfl rfl ?_
    refine zw_iload 0 dX7_swap_29 rfl rfl ?_
    refine zw_if_eq (tg := 37) dX7_swap_31 (by decide) rfl (fun c => ?_) (fun c => ?_)
    · have K := K.1 c
      refine zw_iconst (v := (0 : Int32)) dX7_swap_37 (by decide) rfl ?_
      refine zw_istore dX7_swap_38 (by decide) rfl rfl ?_
      exact zw.sub [2, 3, 4, 5, 0] rfl K
    · have K := K.2 c
      refine zw_iload 0 dX7_swap_34 rfl rfl ?_
      exact zw_ireturn (ty := .int) dX7_swap_36 rfl rfl (Nat.le_refl 0) (Nat.le_refl 0) ⟨_, rfl, rfl, K⟩
  · have K := K.2 c
    refine zw_aload_n 0 dX7_swap_11 rfl rfl rfl ?_
    refine zw_iload_n 3 dX7_swap_12 rfl rfl rfl ?_
    obtain ⟨q3, ct, K⟩ := K
    refine zw_callV (n := 1) (As := [.int v3]) (rest := [.int v1, .int v1, .ref 0]) ct my_X7_isElement rfl rfl k_X7_93 i_X7_isElement s_X7_isElement zs_0 rfl dX7_swap_13 (by decide) (Nat.le_of_ble_eq_true rfl) (Nat.le_refl 0) (Nat.le_refl 0) rfl (fun r s1 h3 hq => ?_)
    obtain ⟨x3, rfl, rfl, hq⟩ := hq
    have K := K x3 h3 hq
    refine zw.st (st' := [.int x3, .int v1, .int v1, .ref 0]) rfl ?_
    refine zw_if_eq (tg := 23) dX7_swap_16 (by decide) rfl (fun c => ?_) (fun c => ?_)
    · have K := K.1 c
      refine zw_iconst (v := (0 : Int32)) dX7_swap_23 (by decide) rfl ?_
      obtain ⟨q4, ct, K⟩ := K
      refine zw_callV (n := 3) (As := [.int v1, .int v1, .int (0 : Int32)]) (rest := []) ct my_X7_faultOf rfl rfl k_X7_130 i_X7_faultOf s_X7_faultOf zs_0 rfl dX7_swap_24 (by decide) (Nat.le_of_ble_eq_true rfl) (Nat.le_refl 0) (Nat.le_refl 0) rfl (fun r s1 h4 hq => ?_)
      obtain ⟨x4, rfl, rfl, hq⟩ := hq
      have K := K x4 h4 hq
      refine zw.st (st' := [.int x4]) rfl ?_
      refine zw_istore dX7_swap_27 (by decide) rfl rfl ?_
      refine zw_iload 0 dX7_swap_29 rfl rfl ?_
      refine zw_if_eq (tg := 37) dX7_swap_31 (by decide) rfl (fun c => ?_) (fun c => ?_)
      · have K := K.1 c
        refine zw_iconst (v := (0 : Int32)) dX7_swap_37 (by decide) rfl ?_
        refine zw_istore dX7_swap_38 (by decide) rfl rfl ?_
        exact zw.sub [2, 3, 4, 5, 0] rfl K
      · have K := K.2 c
        refine zw_iload 0 dX7_swap_34 rfl rfl ?_
        exact zw_ireturn (ty := .int) dX7_swap_36 rfl rfl (Nat.le_refl 0) (Nat.le_refl 0) ⟨_, rfl, rfl, K⟩
    · have K := K.2 c
      refine zw_iconst (v := (1 : Int32)) dX7_swap_19 (by decide) rfl ?_
      refine zw_goto (np := 24) dX7_swap_20 (by decide) ?_
      obtain ⟨q5, ct, K⟩ := K
      refine zw_callV (n := 3) (As := [.int v1, .int v1, .int (1 : Int32)]) (rest := []) ct my_X7_faultOf rfl rfl k_X7_130 i_X7_faultOf s_X7_faultOf zs_0 rfl dX7_swap_24 (by decide) (Nat.le_of_ble_eq_true rfl) (Nat.le_refl 0) (Nat.le_refl 0) rfl (fun r s1 h5 hq => ?_)
      obtain ⟨x5, rfl, rfl, hq⟩ := hq
      have K := K x5 h5 hq
      refine zw.st (st' := [.int x5]) rfl ?_
      refine zw_istore dX7_swap_27 (by decide) rfl rfl ?_
      refine zw_iload 0 dX7_swap_29 rfl rfl ?_
      refine zw_if_eq (tg := 37) dX7_swap_31 (by decide) rfl (fun c => ?_) (fun c => ?_)
      · have K := K.1 c
        refine zw_iconst (v := (0 : Int32)) dX7_swap_37 (by decide) rfl ?_
        refine zw_istore dX7_swap_38 (by decide) rfl rfl ?_
        exact zw.sub [2, 3, 4, 5, 0] rfl K
      · have K := K.2 c
        refine zw_iload 0 dX7_swap_34 rfl rfl ?_
        exact zw_ireturn (ty := .int) dX7_swap_36 rfl rfl (Nat.le_refl 0) (Nat.le_refl 0) ⟨_, rfl, rfl, K⟩

set_option maxRecDepth 100000 in
set_option maxHeartbeats 4000000 in
theorem rX7_swap_40 {q : Int32 → zw_H → Prop} {h : zw_H} {v1 v2 v3 v5 : Int32} (K : (((6 : Int32) ≤ v5 → (∃ q1 : Int32 → zw_H → Prop, zcI 5 mX7_moveElements [.ref 0, .int v1] h q1 ∧ (∀ (x1 : Int32) (h1 : zw_H), q1 x1 h1 → q x1 h1))) ∧ (¬ (6 : Int32) ≤ v5 → ((¬ v5 = v2 → ((¬ v5 = v3 → (∃ j2 : Nat, v5 = nI j2 ∧ j2 < 6 ∧ ∀ h3 : zw_H, h3 = zw_sI h 54 j2 v5 → zwI 6 mX7_swap q 40 [(0, .ref 0), (1, .int v1), (2, .int v2), (3, .int v3), (5, .int (v5 + (1 : Int32)))] [] h3)) ∧ (v5 = v3 → (∃ j4 : Nat, v5 = nI j4 ∧ j4 < 6 ∧ ∀ h5 : zw_H, h5 = zw_sI h 54 j4 v2 → zwI 6 mX7_swap q 40 [(0, .ref 0), (1, .int v1), (2, .int v2), (3, .int v3), (5, .int (v5 + (1 : Int32)))] [] h5)))) ∧ (v5 = v2 → (∃ j6 : Nat, v5 = nI j6 ∧ j6 < 6 ∧ ∀ h7 : zw_H, h7 = zw_sI h 54 j6 v3 → zwI 6 mX7_swap q 40 [(0, .ref 0), (1, .int v1), (2, .int v2), (3, .int v3), (5, .int (v5 + (1 : Int32)))] [] h7)))))) : zwI 6 mX7_swap q 40 [(0, .ref 0), (1, .int v1), (2, .int v2), (3, .int v3), (5, .int v5)] [] h := by
  refine zw_iload 4 dX7_swap_40 rfl rfl ?_
  refine zw_bipush (v := (6 : Int32)) dX7_swap_42 (by decide) rfl ?_
  refine zw_icmp_ge (tg := 82) dX7_swap_44 (by decide) rfl (fun c => ?_) (fun c => ?_)
  · have K := K.1 c
    refine zw_aload_n 0 dX7_swap_82 rfl rfl rfl ?_
    refine zw_iload_n 1 dX7_swap_83 rfl rfl rfl ?_
    obtain ⟨q1, ct, K⟩ := K
    refine zw_callV (n := 1) (As := [.int v1]) (rest := []) ct my_X7_moveElements rfl rfl k_X7_142 i_X7_moveElements s_X7_moveElements zs_0 rfl dX7_swap_84 (by decide) (Nat.le_of_ble_eq_true rfl) (Nat.le_refl 0) (Nat.le_refl 0) rfl (fun r s1 h1 hq => ?_)
    obtain ⟨x1, rfl, rfl, hq⟩ := hq
    have K := K x1 h1 hq
    refine zw.st (st' := [.int x1]) rfl ?_
    exact zw_ireturn (ty := .int) dX7_swap_87 rfl rfl (Nat.le_refl 0) (Nat.le_refl 0) ⟨_, rfl, rfl, K⟩
  · have K := K.2 c
    refine zw_aload_n 0 dX7_swap_47 rfl rfl rfl ?_
    refine zw_getR f_X7_61 dX7_swap_48 zs_0 rfl rfl ?_
    refine zw_iload 4 dX7_swap_51 rfl rfl ?_
    refine zw_iload 4 dX7_swap_53 rfl rfl ?_
    refine zw_iload_n 2 dX7_swap_55 rfl rfl rfl ?_
    refine zw_icmp_ne (tg := 63) dX7_swap_56 (by decide) rfl (fun c => ?_) (fun c => ?_)
    · have K := K.1 c
      refine zw_iload 4 dX7_swap_63 rfl rfl ?_
      refine zw_iload_n 3 dX7_swap_65 rfl rfl rfl ?_
      refine zw_icmp_ne (tg := 73) dX7_swap_66 (by decide) rfl (fun c => ?_) (fun c => ?_)
      · have K := K.1 c
        refine zw_iload 4 dX7_swap_73 rfl rfl ?_
        obtain ⟨j2, hj2, hn2, K⟩ := K
        refine zw_iast j2 dX7_swap_75 zs_54 ⟨hj2, hn2⟩ (by decide) rfl ?_
        generalize e3 : zw_sI h 54 j2 v5 = h3
        have K := K h3 e3.symm
        refine zw_iinc (v := (v5 + (1 : Int32))) 4 dX7_swap_76 rfl rfl (by decide) rfl rfl ?_
        refine zw_goto (np := 40) dX7_swap_79 (by decide) ?_
        exact zw.sub [1, 2, 3, 4, 0] rfl K
      · have K := K.2 c
        refine zw_iload_n 2 dX7_swap_69 rfl rfl rfl ?_
        refine zw_goto (np := 75) dX7_swap_70 (by decide) ?_
        obtain ⟨j4, hj4, hn4, K⟩ := K
        refine zw_iast j4 dX7_swap_75 zs_54 ⟨hj4, hn4⟩ (by decide) rfl ?_
        generalize e5 : zw_sI h 54 j4 v2 = h5
        have K := K h5 e5.symm
        refine zw_iinc (v := (v5 + (1 : Int32))) 4 dX7_swap_76 rfl rfl (by decide) rfl rfl ?_
        refine zw_goto (np := 40) dX7_swap_79 (by decide) ?_
        exact zw.sub [1, 2, 3, 4, 0] rfl K
    · have K := K.2 c
      refine zw_iload_n 3 dX7_swap_59 rfl rfl rfl ?_
      refine zw_goto (np := 75) dX7_swap_60 (by decide) ?_
      obtain ⟨j6, hj6, hn6, K⟩ := K
      refine zw_iast j6 dX7_swap_75 zs_54 ⟨hj6, hn6⟩ (by decide) rfl ?_
      generalize e7 : zw_sI h 54 j6 v3 = h7
      have K := K h7 e7.symm
      refine zw_iinc (v := (v5 + (1 : Int32))) 4 dX7_swap_76 rfl rfl (by decide) rfl rfl ?_
      refine zw_goto (np := 40) dX7_swap_79 (by decide) ?_
      exact zw.sub [1, 2, 3, 4, 0] rfl K

set_option maxRecDepth 100000 in
set_option maxHeartbeats 4000000 in
theorem rX7_rotate_0 {q : Int32 → zw_H → Prop} {h : zw_H} {v1 : Int32} (K : (∃ q1 : Int32 → zw_H → Prop, zcI 1 mX7_faultOf [.ref 0, .int v1, .int v1, .int (1 : Int32)] h q1 ∧ (∀ (x1 : Int32) (h1 : zw_H), q1 x1 h1 → ((x1 = 0 → zwI 6 mX7_rotate q 16 [(0, .ref 0), (1, .int v1), (3, .int (0 : Int32))] [] h1) ∧ (¬ x1 = 0 → q x1 h1))))) : zwI 6 mX7_rotate q 0 [(0, .ref 0), (1, .int v1)] [] h := by
  refine zw_aload_n 0 dX7_rotate_0 rfl rfl rfl ?_
  refine zw_iload_n 1 dX7_rotate_1 rfl rfl rfl ?_
  refine zw_iload_n 1 dX7_rotate_2 rfl rfl rfl ?_
  refine zw_iconst (v := (1 : Int32)) dX7_rotate_3 (by decide) rfl ?_
  obtain ⟨q1, ct, K⟩ := K
  refine zw_callV (n := 3) (As := [.int v1, .int v1, .int (1 : Int32)]) (rest := []) ct my_X7_faultOf rfl rfl k_X7_130 i_X7_faultOf s_X7_faultOf zs_0 rfl dX7_rotate_4 (by decide) (Nat.le_of_ble_eq_true rfl) (Nat.le_refl 0) (Nat.le_refl 0) rfl (fun r s1 h1 hq => ?_)
  obtain ⟨x1, rfl, rfl, hq⟩ := hq
  have K := K x1 h1 hq
  refine zw.st (st' := [.int x1]) rfl ?_
  refine zw_istore_n dX7_rotate_7 rfl (by decide) rfl rfl ?_
  refine zw_iload_n 0 dX7_rotate_8 rfl rfl rfl ?_
  refine zw_if_eq (tg := 14) dX7_rotate_9 (by decide) rfl (fun c => ?_) (fun c => ?_)
  · have K := K.1 c
    refine zw_iconst (v := (0 : Int32)) dX7_rotate_14 (by decide) rfl ?_
    refine zw_istore_n dX7_rotate_15 rfl (by decide) rfl rfl ?_
    exact zw.sub [2, 3, 0] rfl K
  · have K := K.2 c
    refine zw_iload_n 0 dX7_rotate_12 rfl rfl rfl ?_
    exact zw_ireturn (ty := .int) dX7_rotate_13 rfl rfl (Nat.le_refl 0) (Nat.le_refl 0) ⟨_, rfl, rfl, K⟩

set_option maxRecDepth 100000 in
set_option maxHeartbeats 4000000 in
theorem rX7_rotate_16 {q : Int32 → zw_H → Prop} {h : zw_H} {v1 v3 : Int32} (K : (((6 : Int32) ≤ v3 → (∃ q1 : Int32 → zw_H → Prop, zcI 5 mX7_moveElements [.ref 0, .int v1] h q1 ∧ (∀ (x1 : Int32) (h1 : zw_H), q1 x1 h1 → q x1 h1))) ∧ (¬ (6 : Int32) ≤ v3 → (((h.1 1 1) ≤ (v3 + (1 : Int32)) → (∃ j2 : Nat, v3 = nI j2 ∧ j2 < 6 ∧ ∀ h3 : zw_H, h3 = zw_sI h 54 j2 (0 : Int32) → zwI 6 mX7_rotate q 16 [(0, .ref 0), (1, .int v1), (3, .int (v3 + (1 : Int32)))] [] h3)) ∧ (¬ (h.1 1 1) ≤ (v3 + (1 : Int32)) → (∃ j4 : Nat, v3 = nI j4 ∧ j4 < 6 ∧ ∀ h5 : zw_H, h5 = zw_sI h 54 j4 (v3 + (1 : Int32)) → zwI 6 mX7_rotate q 16 [(0, .ref 0), (1, .int v1), (3, .int (v3 + (1 : Int32)))] [] h5)))))) : zwI 6 mX7_rotate q 16 [(0, .ref 0), (1, .int v1), (3, .int v3)] [] h := by
  refine zw_iload_n 2 dX7_rotate_16 rfl rfl rfl ?_
  refine zw_bipush (v := (6 : Int32)) dX7_rotate_17 (by decide) rfl ?_
  refine zw_icmp_ge (tg := 54) dX7_rotate_19 (by decide) rfl (fun c => ?_) (fun c => ?_)
  · have K := K.1 c
    refine zw_aload_n 0 dX7_rotate_54 rfl rfl rfl ?_
    refine zw_iload_n 1 dX7_rotate_55 rfl rfl rfl ?_
    obtain ⟨q1, ct, K⟩ := K
    refine zw_callV (n := 1) (As := [.int v1]) (rest := []) ct my_X7_moveElements rfl rfl k_X7_142 i_X7_moveElements s_X7_moveElements zs_0 rfl dX7_rotate_56 (by decide) (Nat.le_of_ble_eq_true rfl) (Nat.le_refl 0) (Nat.le_refl 0) rfl (fun r s1 h1 hq => ?_)
    obtain ⟨x1, rfl, rfl, hq⟩ := hq
    have K := K x1 h1 hq
    refine zw.st (st' := [.int x1]) rfl ?_
    exact zw_ireturn (ty := .int) dX7_rotate_59 rfl rfl (Nat.le_refl 0) (Nat.le_refl 0) ⟨_, rfl, rfl, K⟩
  · have K := K.2 c
    refine zw_aload_n 0 dX7_rotate_22 rfl rfl rfl ?_
    refine zw_getR f_X7_61 dX7_rotate_23 zs_0 rfl rfl ?_
    refine zw_iload_n 2 dX7_rotate_26 rfl rfl rfl ?_
    refine zw_iload_n 2 dX7_rotate_27 rfl rfl rfl ?_
    refine zw_iconst (v := (1 : Int32)) dX7_rotate_28 (by decide) rfl ?_
    refine zw_iadd dX7_rotate_29 rfl ?_
    refine zw_aload_n 0 dX7_rotate_30 rfl rfl rfl ?_
    refine zw_getR f_X7_10 dX7_rotate_31 zs_0 rfl rfl ?_
    refine zw_getI f_X7_75 dX7_rotate_34 zs_1 rfl rfl ?_
    refine zw_icmp_ge (tg := 46) dX7_rotate_37 (by decide) rfl (fun c => ?_) (fun c => ?_)
    · have K := K.1 c
      refine zw_iconst (v := (0 : Int32)) dX7_rotate_46 (by decide) rfl ?_
      obtain ⟨j2, hj2, hn2, K⟩ := K
      refine zw_iast j2 dX7_rotate_47 zs_54 ⟨hj2, hn2⟩ (by decide) rfl ?_
      generalize e3 : zw_sI h 54 j2 (0 : Int32) = h3
      have K := K h3 e3.symm
      refine zw_iinc (v := (v3 + (1 : Int32))) 2 dX7_rotate_48 rfl rfl (by decide) rfl rfl ?_
      refine zw_goto (np := 16) dX7_rotate_51 (by decide) ?_
      exact zw.sub [1, 2, 0] rfl K
    · have K := K.2 c
      refine zw_iload_n 2 dX7_rotate_40 rfl rfl rfl ?_
      refine zw_iconst (v := (1 : Int32)) dX7_rotate_41 (by decide) rfl ?_
      refine zw_iadd dX7_rotate_42 rfl ?_
      refine zw_goto (np := 47) dX7_rotate_43 (by decide) ?_
      obtain ⟨j4, hj4, hn4, K⟩ := K
      refine zw_iast j4 dX7_rotate_47 zs_54 ⟨hj4, hn4⟩ (by decide) rfl ?_
      generalize e5 : zw_sI h 54 j4 (v3 + (1 : Int32)) = h5
      have K := K h5 e5.symm
      refine zw_iinc (v := (v3 + (1 : Int32))) 2 dX7_rotate_48 rfl rfl (by decide) rfl rfl ?_
      refine zw_goto (np := 16) dX7_rotate_51 (by decide) ?_
      exact zw.sub [1, 2, 0] rfl K

set_option maxRecDepth 100000 in
set_option maxHeartbeats 4000000 in
theorem rX7_complement_0 {q : Int32 → zw_H → Prop} {h : zw_H} {v1 v2 : Int32} (K : (∃ q1 : Int32 → zw_H → Prop, zcI 0 mX7_isRegister [.int v2] h q1 ∧ (∀ (x1 : Int32) (h1 : zw_H), q1 x1 h1 → (∃ q2 : Int32 → zw_H → Prop, zcI 1 mX7_faultOf [.ref 0, .int v1, .int v1, .int x1] h1 q2 ∧ (∀ (x2 : Int32) (h2 : zw_H), q2 x2 h2 → ((x2 = 0 → (∃ q3 : zw_H → Prop, zcV 3 mX7_spellRegister [.ref 0, .int v1] h2 q3 ∧ (∀ h3 : zw_H, q3 h3 → (∃ q4 : Int32 → zw_H → Prop, zcI 1 mX3_firstCrossing [.ref 48] h3 q4 ∧ (∀ (x4 : Int32) (h4 : zw_H), q4 x4 h4 → ((x4 = (-9 : Int32) → (∃ j5 : Nat, v1 = nI j5 ∧ j5 < 8 ∧ (∃ q6 : Int32 → zw_H → Prop, zcI 1 mX7_complementOf [.int (h4.1 2 j5), .int (h4.1 1 1)] h4 q6 ∧ (∀ (x6 : Int32) (h6 : zw_H), q6 x6 h6 → (∃ q7 : Int32 → zw_H → Prop, zcI 4 mX7_put [.ref 0, .int v2, .int x6] h6 q7 ∧ (∀ (x7 : Int32) (h7 : zw_H), q7 x7 h7 → q x7 h7)))))) ∧ (¬ x4 = (-9 : Int32) → q (-3 : Int32) h4))))))) ∧ (¬ x2 = 0 → q x2 h2))))))) : zwI 5 mX7_complement q 0 [(0, .ref 0), (1, .int v1), (2, .int v2)] [] h := by
  refine zw_aload_n 0 dX7_complement_0 rfl rfl rfl ?_
  refine zw_iload_n 1 dX7_complement_1 rfl rfl rfl ?_
  refine zw_iload_n 1 dX7_complement_2 rfl rfl rfl ?_
  refine zw_iload_n 2 dX7_complement_3 rfl rfl rfl ?_
  obtain ⟨q1, ct, K⟩ := K
  refine zw_callS (n := 1) (As := [.int v2]) (rest := [.int v1, .int v1, .ref 0]) ct my_X7_isRegister rfl rfl k_X7_117 t_X7_isRegister dX7_complement_4 (by decide) (Nat.le_of_ble_eq_true rfl) (Nat.le_refl 0) (Nat.le_refl 0) rfl (fun r s1 h1 hq => ?_)
  obtain ⟨x1, rfl, rfl, hq⟩ := hq
  have K := K x1 h1 hq
  refine zw.st (st' := [.int x1, .int v1, .int v1, .ref 0]) rfl ?_
  obtain ⟨q2, ct, K⟩ := K
  refine zw_callV (n := 3) (As := [.int v1, .int v1, .int x1]) (rest := []) ct my_X7_faultOf rfl rfl k_X7_130 i_X7_faultOf s_X7_faultOf zs_0 rfl dX7_complement_7 (by decide) (Nat.le_of_ble_eq_true rfl) (Nat.le_refl 0) (Nat.le_refl 0) rfl (fun r s1 h2 hq => ?_)
  obtain ⟨x2, rfl, rfl, hq⟩ := hq
  have K := K x2 h2 hq
  refine zw.st (st' := [.int x2]) rfl ?_
  refine zw_istore_n dX7_complement_10 rfl (by decide) rfl rfl ?_
  refine zw_iload_n 0 dX7_complement_11 rfl rfl rfl ?_
  refine zw_if_eq (tg := 17) dX7_complement_12 (by decide) rfl (fun c => ?_) (fun c => ?_)
  · have K := K.1 c
    refine zw_aload_n 1 dX7_complement_17 rfl rfl rfl ?_
    refine zw_iload_n 2 dX7_complement_18 rfl rfl rfl ?_
    obtain ⟨q3, ct, K⟩ := K
    refine zw_callV (n := 1) (As := [.int v1]) (rest := []) ct my_X7_spellRegister rfl rfl k_X7_145 i_X7_spellRegister s_X7_spellRegister zs_0 rfl dX7_complement_19 (by decide) (Nat.le_of_ble_eq_true rfl) (Nat.le_refl 0) (Nat.le_refl 0) rfl (fun r s1 h3 hq => ?_)
    obtain ⟨rfl, rfl, hq⟩ := hq
    have K := K h3 hq
    refine zw.st (st' := []) rfl ?_
    refine zw_aload_n 1 dX7_complement_22 rfl rfl rfl ?_
    refine zw_getR f_X7_54 dX7_complement_23 zs_0 rfl rfl ?_
    obtain ⟨q4, ct, K⟩ := K
    refine zw_callV (n := 0) (As := []) (rest := []) ct my_X3_firstCrossing rfl rfl k_X7_148 i_X3_firstCrossing s_X3_firstCrossing zs_48 rfl dX7_complement_26 (by decide) (Nat.le_of_ble_eq_true rfl) (Nat.le_refl 0) (Nat.le_refl 0) rfl (fun r s1 h4 hq => ?_)
    obtain ⟨x4, rfl, rfl, hq⟩ := hq
    have K := K x4 h4 hq
    refine zw.st (st' := [.int x4]) rfl ?_
    refine zw_bipush (v := (-9 : Int32)) dX7_complement_29 (by decide) rfl ?_
    refine zw_icmp_eq (tg := 37) dX7_complement_31 (by decide) rfl (fun c => ?_) (fun c => ?_)
    · have K := K.1 c
      refine zw_aload_n 1 dX7_complement_37 rfl rfl rfl ?_
      refine zw_iload_n 3 dX7_complement_38 rfl rfl rfl ?_
      refine zw_aload_n 1 dX7_complement_39 rfl rfl rfl ?_
      refine zw_getR f_X7_10 dX7_complement_40 zs_0 rfl rfl ?_
      refine zw_getR f_X7_133 dX7_complement_43 zs_1 rfl rfl ?_
      refine zw_iload_n 2 dX7_complement_46 rfl rfl rfl ?_
      obtain ⟨j5, hj5, hn5, K⟩ := K
      refine zw_iald j5 dX7_complement_47 zs_2 ⟨hj5, hn5⟩ (by decide) rfl ?_
      refine zw_aload_n 1 dX7_complement_48 rfl rfl rfl ?_
      refine zw_getR f_X7_10 dX7_complement_49 zs_0 rfl rfl ?_
      refine zw_getI f_X7_75 dX7_complement_52 zs_1 rfl rfl ?_
      obtain ⟨q6, ct, K⟩ := K
      refine zw_callS (n := 2) (As := [.int (h4.1 2 j5), .int (h4.1 1 1)]) (rest := [.int v2, .ref 0]) ct my_X7_complementOf rfl rfl k_X7_152 t_X7_complementOf dX7_complement_55 (by decide) (Nat.le_of_ble_eq_true rfl) (Nat.le_refl 0) (Nat.le_refl 0) rfl (fun r s1 h6 hq => ?_)
      obtain ⟨x6, rfl, rfl, hq⟩ := hq
      have K := K x6 h6 hq
      refine zw.st (st' := [.int x6, .int v2, .ref 0]) rfl ?_
      obtain ⟨q7, ct, K⟩ := K
      refine zw_callV (n := 2) (As := [.int v2, .int x6]) (rest := []) ct my_X7_put rfl rfl k_X7_124 i_X7_put s_X7_put zs_0 rfl dX7_complement_58 (by decide) (Nat.le_of_ble_eq_true rfl) (Nat.le_refl 0) (Nat.le_refl 0) rfl (fun r s1 h7 hq => ?_)
      obtain ⟨x7, rfl, rfl, hq⟩ := hq
      have K := K x7 h7 hq
      refine zw.st (st' := [.int x7]) rfl ?_
      exact zw_ireturn (ty := .int) dX7_complement_61 rfl rfl (Nat.le_refl 0) (Nat.le_refl 0) ⟨_, rfl, rfl, K⟩
    · have K := K.2 c
      refine zw_bipush (v := (-3 : Int32)) dX7_complement_34 (by decide) rfl ?_
      exact zw_ireturn (ty := .int) dX7_complement_36 rfl rfl (Nat.le_refl 0) (Nat.le_refl 0) ⟨_, rfl, rfl, K⟩
  · have K := K.2 c
    refine zw_iload_n 0 dX7_complement_15 rfl rfl rfl ?_
    exact zw_ireturn (ty := .int) dX7_complement_16 rfl rfl (Nat.le_refl 0) (Nat.le_refl 0) ⟨_, rfl, rfl, K⟩

set_option maxRecDepth 100000 in
set_option maxHeartbeats 4000000 in
theorem rX7_unrank_0 {q : Int32 → zw_H → Prop} {h : zw_H} {v1 v2 : Int32} (K : (∃ q1 : Int32 → zw_H → Prop, zcI 0 mX7_isRegister [.int v1] h q1 ∧ (∀ (x1 : Int32) (h1 : zw_H), q1 x1 h1 → ((x1 = 0 → q (-1 : Int32) h1) ∧ (¬ x1 = 0 → (∃ q2 : Int32 → zw_H → Prop, zcI 0 mX2_has [.ref 37, .int v2] h1 q2 ∧ (∀ (x2 : Int32) (h2 : zw_H), q2 x2 h2 → ((¬ x2 = 0 → (∃ j3 : Nat, v2 = nI j3 ∧ j3 < 203 ∧ (∃ q4 : Int32 → zw_H → Prop, zcI 4 mX7_put [.ref 0, .int v1, .int (h2.1 38 j3)] h2 q4 ∧ (∀ (x4 : Int32) (h4 : zw_H), q4 x4 h4 → q x4 h4)))) ∧ (x2 = 0 → q (-1 : Int32) h2))))))))) : zwI 5 mX7_unrank q 0 [(0, .ref 0), (1, .int v1), (2, .int v2)] [] h := by
  refine zw_iload_n 1 dX7_unrank_0 rfl rfl rfl ?_
  obtain ⟨q1, ct, K⟩ := K
  refine zw_callS (n := 1) (As := [.int v1]) (rest := []) ct my_X7_isRegister rfl rfl k_X7_117 t_X7_isRegister dX7_unrank_1 (by decide) (Nat.le_of_ble_eq_true rfl) (Nat.le_refl 0) (Nat.le_refl 0) rfl (fun r s1 h1 hq => ?_)
  obtain ⟨x1, rfl, rfl, hq⟩ := hq
  have K := K x1 h1 hq
  refine zw.st (st' := [.int x1]) rfl ?_
  refine zw_if_eq (tg := 18) dX7_unrank_4 (by decide) rfl (fun c => ?_) (fun c => ?_)
  · have K := K.1 c
    refine zw_iconst (v := (-1 : Int32)) dX7_unrank_18 (by decide) rfl ?_
    exact zw_ireturn (ty := .int) dX7_unrank_19 rfl rfl (Nat.le_refl 0) (Nat.le_refl 0) ⟨_, rfl, rfl, K⟩
  · have K := K.2 c
    refine zw_aload_n 0 dX7_unrank_7 rfl rfl rfl ?_
    refine zw_getR f_X7_40 dX7_unrank_8 zs_0 rfl rfl ?_
    refine zw_iload_n 2 dX7_unrank_11 rfl rfl rfl ?_
    obtain ⟨q2, ct, K⟩ := K
    refine zw_callV (n := 1) (As := [.int v2]) (rest := []) ct my_X2_has rfl rfl k_X7_155 i_X2_has s_X2_has zs_37 rfl dX7_unrank_12 (by decide) (Nat.le_of_ble_eq_true rfl) (Nat.le_refl 0) (Nat.le_refl 0) rfl (fun r s1 h2 hq => ?_)
    obtain ⟨x2, rfl, rfl, hq⟩ := hq
    have K := K x2 h2 hq
    refine zw.st (st' := [.int x2]) rfl ?_
    refine zw_if_ne (tg := 20) dX7_unrank_15 (by decide) rfl (fun c => ?_) (fun c => ?_)
    · have K := K.1 c
      refine zw_aload_n 0 dX7_unrank_20 rfl rfl rfl ?_
      refine zw_iload_n 1 dX7_unrank_21 rfl rfl rfl ?_
      refine zw_aload_n 0 dX7_unrank_22 rfl rfl rfl ?_
      refine zw_getR f_X7_40 dX7_unrank_23 zs_0 rfl rfl ?_
      refine zw_getR f_X7_158 dX7_unrank_26 zs_37 rfl rfl ?_
      refine zw_iload_n 2 dX7_unrank_29 rfl rfl rfl ?_
      obtain ⟨j3, hj3, hn3, K⟩ := K
      refine zw_iald j3 dX7_unrank_30 zs_38 ⟨hj3, hn3⟩ (by decide) rfl ?_
      obtain ⟨q4, ct, K⟩ := K
      refine zw_callV (n := 2) (As := [.int v1, .int (h2.1 38 j3)]) (rest := []) ct my_X7_put rfl rfl k_X7_124 i_X7_put s_X7_put zs_0 rfl dX7_unrank_31 (by decide) (Nat.le_of_ble_eq_true rfl) (Nat.le_refl 0) (Nat.le_refl 0) rfl (fun r s1 h4 hq => ?_)
      obtain ⟨x4, rfl, rfl, hq⟩ := hq
      have K := K x4 h4 hq
      refine zw.st (st' := [.int x4]) rfl ?_
      exact zw_ireturn (ty := .int) dX7_unrank_34 rfl rfl (Nat.le_refl 0) (Nat.le_refl 0) ⟨_, rfl, rfl, K⟩
    · have K := K.2 c
      refine zw_iconst (v := (-1 : Int32)) dX7_unrank_18 (by decide) rfl ?_
      exact zw_ireturn (ty := .int) dX7_unrank_19 rfl rfl (Nat.le_refl 0) (Nat.le_refl 0) ⟨_, rfl, rfl, K⟩

set_option maxRecDepth 100000 in
set_option maxHeartbeats 4000000 in
theorem rX7_next_0 {q : Int32 → zw_H → Prop} {h : zw_H} {v1 : Int32} (K : (∃ q1 : Int32 → zw_H → Prop, zcI 1 mX7_faultOf [.ref 0, .int v1, .int v1, .int (1 : Int32)] h q1 ∧ (∀ (x1 : Int32) (h1 : zw_H), q1 x1 h1 → ((x1 = 0 → (∃ q2 : zw_H → Prop, zcV 3 mX7_spellRegister [.ref 0, .int v1] h1 q2 ∧ (∀ h2 : zw_H, q2 h2 → (∃ q3 : Int32 → zw_H → Prop, zcI 0 mX3_growthNumber [.ref 48] h2 q3 ∧ (∀ (x3 : Int32) (h3 : zw_H), q3 x3 h3 → (∃ q4 : Int32 → zw_H → Prop, zcI 0 mX2_firstBehind [.ref 37, .int x3] h3 q4 ∧ (∀ (x4 : Int32) (h4 : zw_H), q4 x4 h4 → (∃ q5 : Int32 → zw_H → Prop, zcI 2 mX7_stepTo [.ref 0, .int v1, .int x4] h4 q5 ∧ (∀ (x5 : Int32) (h5 : zw_H), q5 x5 h5 → q x5 h5))))))))) ∧ (¬ x1 = 0 → q x1 h1))))) : zwI 4 mX7_next q 0 [(0, .ref 0), (1, .int v1)] [] h := by
  refine zw_aload_n 0 dX7_next_0 rfl rfl rfl ?_
  refine zw_iload_n 1 dX7_next_1 rfl rfl rfl ?_
  refine zw_iload_n 1 dX7_next_2 rfl rfl rfl ?_
  refine zw_iconst (v := (1 : Int32)) dX7_next_3 (by decide) rfl ?_
  obtain ⟨q1, ct, K⟩ := K
  refine zw_callV (n := 3) (As := [.int v1, .int v1, .int (1 : Int32)]) (rest := []) ct my_X7_faultOf rfl rfl k_X7_130 i_X7_faultOf s_X7_faultOf zs_0 rfl dX7_next_4 (by decide) (Nat.le_of_ble_eq_true rfl) (Nat.le_refl 0) (Nat.le_refl 0) rfl (fun r s1 h1 hq => ?_)
  obtain ⟨x1, rfl, rfl, hq⟩ := hq
  have K := K x1 h1 hq
  refine zw.st (st' := [.int x1]) rfl ?_
  refine zw_istore_n dX7_next_7 rfl (by decide) rfl rfl ?_
  refine zw_iload_n 0 dX7_next_8 rfl rfl rfl ?_
  refine zw_if_eq (tg := 14) dX7_next_9 (by decide) rfl (fun c => ?_) (fun c => ?_)
  · have K := K.1 c
    refine zw_aload_n 1 dX7_next_14 rfl rfl rfl ?_
    refine zw_iload_n 2 dX7_next_15 rfl rfl rfl ?_
    obtain ⟨q2, ct, K⟩ := K
    refine zw_callV (n := 1) (As := [.int v1]) (rest := []) ct my_X7_spellRegister rfl rfl k_X7_145 i_X7_spellRegister s_X7_spellRegister zs_0 rfl dX7_next_16 (by decide) (Nat.le_of_ble_eq_true rfl) (Nat.le_refl 0) (Nat.le_refl 0) rfl (fun r s1 h2 hq => ?_)
    obtain ⟨rfl, rfl, hq⟩ := hq
    have K := K h2 hq
    refine zw.st (st' := []) rfl ?_
    refine zw_aload_n 1 dX7_next_19 rfl rfl rfl ?_
    refine zw_iload_n 2 dX7_next_20 rfl rfl rfl ?_
    refine zw_aload_n 1 dX7_next_21 rfl rfl rfl ?_
    refine zw_getR f_X7_40 dX7_next_22 zs_0 rfl rfl ?_
    refine zw_aload_n 1 dX7_next_25 rfl rfl rfl ?_
    refine zw_getR f_X7_54 dX7_next_26 zs_0 rfl rfl ?_
    obtain ⟨q3, ct, K⟩ := K
    refine zw_callV (n := 0) (As := []) (rest := [.ref 37, .int v1, .ref 0]) ct my_X3_growthNumber rfl rfl k_X7_161 i_X3_growthNumber s_X3_growthNumber zs_48 rfl dX7_next_29 (by decide) (Nat.le_of_ble_eq_true rfl) (Nat.le_refl 0) (Nat.le_refl 0) rfl (fun r s1 h3 hq => ?_)
    obtain ⟨x3, rfl, rfl, hq⟩ := hq
    have K := K x3 h3 hq
    refine zw.st (st' := [.int x3, .ref 37, .int v1, .ref 0]) rfl ?_
    obtain ⟨q4, ct, K⟩ := K
    refine zw_callV (n := 1) (As := [.int x3]) (rest := [.int v1, .ref 0]) ct my_X2_firstBehind rfl rfl k_X7_164 i_X2_firstBehind s_X2_firstBehind zs_37 rfl dX7_next_32 (by decide) (Nat.le_of_ble_eq_true rfl) (Nat.le_refl 0) (Nat.le_refl 0) rfl (fun r s1 h4 hq => ?_)
    obtain ⟨x4, rfl, rfl, hq⟩ := hq
    have K := K x4 h4 hq
    refine zw.st (st' := [.int x4, .int v1, .ref 0]) rfl ?_
    obtain ⟨q5, ct, K⟩ := K
    refine zw_callV (n := 2) (As := [.int v1, .int x4]) (rest := []) ct my_X7_stepTo rfl rfl k_X7_167 i_X7_stepTo s_X7_stepTo zs_0 rfl dX7_next_35 (by decide) (Nat.le_of_ble_eq_true rfl) (Nat.le_refl 0) (Nat.le_refl 0) rfl (fun r s1 h5 hq => ?_)
    obtain ⟨x5, rfl, rfl, hq⟩ := hq
    have K := K x5 h5 hq
    refine zw.st (st' := [.int x5]) rfl ?_
    exact zw_ireturn (ty := .int) dX7_next_38 rfl rfl (Nat.le_refl 0) (Nat.le_refl 0) ⟨_, rfl, rfl, K⟩
  · have K := K.2 c
    refine zw_iload_n 0 dX7_next_12 rfl rfl rfl ?_
    exact zw_ireturn (ty := .int) dX7_next_13 rfl rfl (Nat.le_refl 0) (Nat.le_refl 0) ⟨_, rfl, rfl, K⟩

set_option maxRecDepth 100000 in
set_option maxHeartbeats 4000000 in
theorem rX7_previous_0 {q : Int32 → zw_H → Prop} {h : zw_H} {v1 : Int32} (K : (∃ q1 : Int32 → zw_H → Prop, zcI 1 mX7_faultOf [.ref 0, .int v1, .int v1, .int (1 : Int32)] h q1 ∧ (∀ (x1 : Int32) (h1 : zw_H), q1 x1 h1 → ((x1 = 0 → (∃ q2 : zw_H → Prop, zcV 3 mX7_spellRegister [.ref 0, .int v1] h1 q2 ∧ (∀ h2 : zw_H, q2 h2 → (∃ q3 : Int32 → zw_H → Prop, zcI 0 mX3_growthNumber [.ref 48] h2 q3 ∧ (∀ (x3 : Int32) (h3 : zw_H), q3 x3 h3 → (∃ q4 : Int32 → zw_H → Prop, zcI 0 mX2_lastBefore [.ref 37, .int x3] h3 q4 ∧ (∀ (x4 : Int32) (h4 : zw_H), q4 x4 h4 → (∃ q5 : Int32 → zw_H → Prop, zcI 2 mX7_stepTo [.ref 0, .int v1, .int x4] h4 q5 ∧ (∀ (x5 : Int32) (h5 : zw_H), q5 x5 h5 → q x5 h5))))))))) ∧ (¬ x1 = 0 → q x1 h1))))) : zwI 4 mX7_previous q 0 [(0, .ref 0), (1, .int v1)] [] h := by
  refine zw_aload_n 0 dX7_previous_0 rfl rfl rfl ?_
  refine zw_iload_n 1 dX7_previous_1 rfl rfl rfl ?_
  refine zw_iload_n 1 dX7_previous_2 rfl rfl rfl ?_
  refine zw_iconst (v := (1 : Int32)) dX7_previous_3 (by decide) rfl ?_
  obtain ⟨q1, ct, K⟩ := K
  refine zw_callV (n := 3) (As := [.int v1, .int v1, .int (1 : Int32)]) (rest := []) ct my_X7_faultOf rfl rfl k_X7_130 i_X7_faultOf s_X7_faultOf zs_0 rfl dX7_previous_4 (by decide) (Nat.le_of_ble_eq_true rfl) (Nat.le_refl 0) (Nat.le_refl 0) rfl (fun r s1 h1 hq => ?_)
  obtain ⟨x1, rfl, rfl, hq⟩ := hq
  have K := K x1 h1 hq
  refine zw.st (st' := [.int x1]) rfl ?_
  refine zw_istore_n dX7_previous_7 rfl (by decide) rfl rfl ?_
  refine zw_iload_n 0 dX7_previous_8 rfl rfl rfl ?_
  refine zw_if_eq (tg := 14) dX7_previous_9 (by decide) rfl (fun c => ?_) (fun c => ?_)
  · have K := K.1 c
    refine zw_aload_n 1 dX7_previous_14 rfl rfl rfl ?_
    refine zw_iload_n 2 dX7_previous_15 rfl rfl rfl ?_
    obtain ⟨q2, ct, K⟩ := K
    refine zw_callV (n := 1) (As := [.int v1]) (rest := []) ct my_X7_spellRegister rfl rfl k_X7_145 i_X7_spellRegister s_X7_spellRegister zs_0 rfl dX7_previous_16 (by decide) (Nat.le_of_ble_eq_true rfl) (Nat.le_refl 0) (Nat.le_refl 0) rfl (fun r s1 h2 hq => ?_)
    obtain ⟨rfl, rfl, hq⟩ := hq
    have K := K h2 hq
    refine zw.st (st' := []) rfl ?_
    refine zw_aload_n 1 dX7_previous_19 rfl rfl rfl ?_
    refine zw_iload_n 2 dX7_previous_20 rfl rfl rfl ?_
    refine zw_aload_n 1 dX7_previous_21 rfl rfl rfl ?_
    refine zw_getR f_X7_40 dX7_previous_22 zs_0 rfl rfl ?_
    refine zw_aload_n 1 dX7_previous_25 rfl rfl rfl ?_
    refine zw_getR f_X7_54 dX7_previous_26 zs_0 rfl rfl ?_
    obtain ⟨q3, ct, K⟩ := K
    refine zw_callV (n := 0) (As := []) (rest := [.ref 37, .int v1, .ref 0]) ct my_X3_growthNumber rfl rfl k_X7_161 i_X3_growthNumber s_X3_growthNumber zs_48 rfl dX7_previous_29 (by decide) (Nat.le_of_ble_eq_true rfl) (Nat.le_refl 0) (Nat.le_refl 0) rfl (fun r s1 h3 hq => ?_)
    obtain ⟨x3, rfl, rfl, hq⟩ := hq
    have K := K x3 h3 hq
    refine zw.st (st' := [.int x3, .ref 37, .int v1, .ref 0]) rfl ?_
    obtain ⟨q4, ct, K⟩ := K
    refine zw_callV (n := 1) (As := [.int x3]) (rest := [.int v1, .ref 0]) ct my_X2_lastBefore rfl rfl k_X7_170 i_X2_lastBefore s_X2_lastBefore zs_37 rfl dX7_previous_32 (by decide) (Nat.le_of_ble_eq_true rfl) (Nat.le_refl 0) (Nat.le_refl 0) rfl (fun r s1 h4 hq => ?_)
    obtain ⟨x4, rfl, rfl, hq⟩ := hq
    have K := K x4 h4 hq
    refine zw.st (st' := [.int x4, .int v1, .ref 0]) rfl ?_
    obtain ⟨q5, ct, K⟩ := K
    refine zw_callV (n := 2) (As := [.int v1, .int x4]) (rest := []) ct my_X7_stepTo rfl rfl k_X7_167 i_X7_stepTo s_X7_stepTo zs_0 rfl dX7_previous_35 (by decide) (Nat.le_of_ble_eq_true rfl) (Nat.le_refl 0) (Nat.le_refl 0) rfl (fun r s1 h5 hq => ?_)
    obtain ⟨x5, rfl, rfl, hq⟩ := hq
    have K := K x5 h5 hq
    refine zw.st (st' := [.int x5]) rfl ?_
    exact zw_ireturn (ty := .int) dX7_previous_38 rfl rfl (Nat.le_refl 0) (Nat.le_refl 0) ⟨_, rfl, rfl, K⟩
  · have K := K.2 c
    refine zw_iload_n 0 dX7_previous_12 rfl rfl rfl ?_
    exact zw_ireturn (ty := .int) dX7_previous_13 rfl rfl (Nat.le_refl 0) (Nat.le_refl 0) ⟨_, rfl, rfl, K⟩

set_option maxRecDepth 100000 in
set_option maxHeartbeats 4000000 in
theorem rX7_draw_0 {q : Int32 → zw_H → Prop} {h : zw_H} {v1 v2 : Int32} (K : (∃ q1 : Int32 → zw_H → Prop, zcI 0 mX7_isRegister [.int v1] h q1 ∧ (∀ (x1 : Int32) (h1 : zw_H), q1 x1 h1 → ((¬ x1 = 0 → ((¬ (h1.1 37 5) = 0 → (¬ (h1.1 37 5) = 0 ∧ (∃ q2 : Int32 → zw_H → Prop, zcI 2 mX7_stepTo [.ref 0, .int v1, .int ((((Int32.toUInt32 ((v2 * (1103515245 : Int32)) + (12345 : Int32)) >>> (Int32.toUInt32 (16 : Int32) &&& Int32.toUInt32 31)).toInt32) &&& (32767 : Int32)) - (((Int32.toUInt32 ((v2 * (1103515245 : Int32)) + (12345 : Int32)) >>> (Int32.toUInt32 (16 : Int32) &&& Int32.toUInt32 31)).toInt32) &&& (32767 : Int32)) / (h1.1 37 5) * (h1.1 37 5))] h1 q2 ∧ (∀ (x2 : Int32) (h2 : zw_H), q2 x2 h2 → q x2 h2)))) ∧ ((h1.1 37 5) = 0 → q (-3 : Int32) h1))) ∧ (x1 = 0 → q (-1 : Int32) h1))))) : zwI 3 mX7_draw q 0 [(0, .ref 0), (1, .int v1), (2, .int v2)] [] h := by
  refine zw_iload_n 1 dX7_draw_0 rfl rfl rfl ?_
  obtain ⟨q1, ct, K⟩ := K
  refine zw_callS (n := 1) (As := [.int v1]) (rest := []) ct my_X7_isRegister rfl rfl k_X7_117 t_X7_isRegister dX7_draw_1 (by decide) (Nat.le_of_ble_eq_true rfl) (Nat.le_refl 0) (Nat.le_refl 0) rfl (fun r s1 h1 hq => ?_)
  obtain ⟨x1, rfl, rfl, hq⟩ := hq
  have K := K x1 h1 hq
  refine zw.st (st' := [.int x1]) rfl ?_
  refine zw_if_ne (tg := 9) dX7_draw_4 (by decide) rfl (fun c => ?_) (fun c => ?_)
  · have K := K.1 c
    refine zw_aload_n 0 dX7_draw_9 rfl rfl rfl ?_
    refine zw_getR f_X7_40 dX7_draw_10 zs_0 rfl rfl ?_
    refine zw_getI f_X7_173 dX7_draw_13 zs_37 rfl rfl ?_
    refine zw_if_ne (tg := 22) dX7_draw_16 (by decide) rfl (fun c => ?_) (fun c => ?_)
    · have K := K.1 c
      refine zw_iload_n 2 dX7_draw_22 rfl rfl rfl ?_
      refine zw_ldc n_X7_176 dX7_draw_23 rfl ?_
      refine zw_imul dX7_draw_25 rfl ?_
      refine zw_sipush (v := (12345 : Int32)) dX7_draw_26 (by decide) rfl ?_
      refine zw_iadd dX7_draw_29 rfl ?_
      refine zw_istore_n dX7_draw_30 rfl (by decide) rfl rfl ?_
      refine zw_aload_n 1 dX7_draw_31 rfl rfl rfl ?_
      refine zw_iload_n 2 dX7_draw_32 rfl rfl rfl ?_
      refine zw_iload_n 0 dX7_draw_33 rfl rfl rfl ?_
      refine zw_bipush (v := (16 : Int32)) dX7_draw_34 (by decide) rfl ?_
      refine zw_iushr dX7_draw_36 rfl ?_
      refine zw_sipush (v := (32767 : Int32)) dX7_draw_37 (by decide) rfl ?_
      refine zw_iand dX7_draw_40 rfl ?_
      refine zw_aload_n 1 dX7_draw_41 rfl rfl rfl ?_
      refine zw_getR f_X7_40 dX7_draw_42 zs_0 rfl rfl ?_
      refine zw_getI f_X7_173 dX7_draw_45 zs_37 rfl rfl ?_
      obtain ⟨hz, K⟩ := K
      refine zw_irem dX7_draw_48 hz rfl ?_
      obtain ⟨q2, ct, K⟩ := K
      refine zw_callV (n := 2) (As := [.int v1, .int ((((Int32.toUInt32 ((v2 * (1103515245 : Int32)) + (12345 : Int32)) >>> (Int32.toUInt32 (16 : Int32) &&& Int32.toUInt32 31)).toInt32) &&& (32767 : Int32)) - (((Int32.toUInt32 ((v2 * (1103515245 : Int32)) + (12345 : Int32)) >>> (Int32.toUInt32 (16 : Int32) &&& Int32.toUInt32 31)).toInt32) &&& (32767 : Int32)) / (h1.1 37 5) * (h1.1 37 5))]) (rest := []) ct my_X7_stepTo rfl rfl k_X7_167 i_X7_stepTo s_X7_stepTo zs_0 rfl dX7_draw_49 (by decide) (Nat.le_of_ble_eq_true rfl) (Nat.le_refl 0) (Nat.le_refl 0) rfl (fun r s1 h2 hq => ?_)
      obtain ⟨x2, rfl, rfl, hq⟩ := hq
      have K := K x2 h2 hq
      refine zw.st (st' := [.int x2]) rfl ?_
      exact zw_ireturn (ty := .int) dX7_draw_52 rfl rfl (Nat.le_refl 0) (Nat.le_refl 0) ⟨_, rfl, rfl, K⟩
    · have K := K.2 c
      refine zw_bipush (v := (-3 : Int32)) dX7_draw_19 (by decide) rfl ?_
      exact zw_ireturn (ty := .int) dX7_draw_21 rfl rfl (Nat.le_refl 0) (Nat.le_refl 0) ⟨_, rfl, rfl, K⟩
  · have K := K.2 c
    refine zw_iconst (v := (-1 : Int32)) dX7_draw_7 (by decide) rfl ?_
    exact zw_ireturn (ty := .int) dX7_draw_8 rfl rfl (Nat.le_refl 0) (Nat.le_refl 0) ⟨_, rfl, rfl, K⟩

set_option maxRecDepth 100000 in
set_option maxHeartbeats 4000000 in
theorem rX7_blocks_0 {q : Int32 → zw_H → Prop} {h : zw_H} {v1 : Int32} (K : (∃ q1 : Int32 → zw_H → Prop, zcI 1 mX7_faultOf [.ref 0, .int v1, .int v1, .int (1 : Int32)] h q1 ∧ (∀ (x1 : Int32) (h1 : zw_H), q1 x1 h1 → ((x1 = 0 → (∃ j2 : Nat, v1 = nI j2 ∧ j2 < 8 ∧ (∃ q3 : Int32 → zw_H → Prop, zcI 3 mX7_blockCountOf [.ref 0, .int (h1.1 2 j2)] h1 q3 ∧ (∀ (x3 : Int32) (h3 : zw_H), q3 x3 h3 → q x3 h3)))) ∧ (¬ x1 = 0 → q x1 h1))))) : zwI 4 mX7_blocks q 0 [(0, .ref 0), (1, .int v1)] [] h := by
  refine zw_aload_n 0 dX7_blocks_0 rfl rfl rfl ?_
  refine zw_iload_n 1 dX7_blocks_1 rfl rfl rfl ?_
  refine zw_iload_n 1 dX7_blocks_2 rfl rfl rfl ?_
  refine zw_iconst (v := (1 : Int32)) dX7_blocks_3 (by decide) rfl ?_
  obtain ⟨q1, ct, K⟩ := K
  refine zw_callV (n := 3) (As := [.int v1, .int v1, .int (1 : Int32)]) (rest := []) ct my_X7_faultOf rfl rfl k_X7_130 i_X7_faultOf s_X7_faultOf zs_0 rfl dX7_blocks_4 (by decide) (Nat.le_of_ble_eq_true rfl) (Nat.le_refl 0) (Nat.le_refl 0) rfl (fun r s1 h1 hq => ?_)
  obtain ⟨x1, rfl, rfl, hq⟩ := hq
  have K := K x1 h1 hq
  refine zw.st (st' := [.int x1]) rfl ?_
  refine zw_istore_n dX7_blocks_7 rfl (by decide) rfl rfl ?_
  refine zw_iload_n 0 dX7_blocks_8 rfl rfl rfl ?_
  refine zw_if_eq (tg := 16) dX7_blocks_9 (by decide) rfl (fun c => ?_) (fun c => ?_)
  · have K := K.1 c
    refine zw_aload_n 1 dX7_blocks_16 rfl rfl rfl ?_
    refine zw_aload_n 1 dX7_blocks_17 rfl rfl rfl ?_
    refine zw_getR f_X7_10 dX7_blocks_18 zs_0 rfl rfl ?_
    refine zw_getR f_X7_133 dX7_blocks_21 zs_1 rfl rfl ?_
    refine zw_iload_n 2 dX7_blocks_24 rfl rfl rfl ?_
    obtain ⟨j2, hj2, hn2, K⟩ := K
    refine zw_iald j2 dX7_blocks_25 zs_2 ⟨hj2, hn2⟩ (by decide) rfl ?_
    obtain ⟨q3, ct, K⟩ := K
    refine zw_callV (n := 1) (As := [.int (h1.1 2 j2)]) (rest := []) ct my_X7_blockCountOf rfl rfl k_X7_177 i_X7_blockCountOf s_X7_blockCountOf zs_0 rfl dX7_blocks_26 (by decide) (Nat.le_of_ble_eq_true rfl) (Nat.le_refl 0) (Nat.le_refl 0) rfl (fun r s1 h3 hq => ?_)
    obtain ⟨x3, rfl, rfl, hq⟩ := hq
    have K := K x3 h3 hq
    refine zw.st (st' := [.int x3]) rfl ?_
    exact zw_ireturn (ty := .int) dX7_blocks_29 rfl rfl (Nat.le_refl 0) (Nat.le_refl 0) ⟨_, rfl, rfl, K⟩
  · have K := K.2 c
    refine zw_iload_n 0 dX7_blocks_12 rfl rfl rfl ?_
    refine zw_goto (np := 29) dX7_blocks_13 (by decide) ?_
    exact zw_ireturn (ty := .int) dX7_blocks_29 rfl rfl (Nat.le_refl 0) (Nat.le_refl 0) ⟨_, rfl, rfl, K⟩

set_option maxRecDepth 100000 in
set_option maxHeartbeats 4000000 in
theorem rX7_blockOf_0 {q : Int32 → zw_H → Prop} {h : zw_H} {v1 v2 : Int32} (K : (∃ q1 : Int32 → zw_H → Prop, zcI 0 mX7_isElement [.ref 0, .int v2] h q1 ∧ (∀ (x1 : Int32) (h1 : zw_H), q1 x1 h1 → (∃ q2 : Int32 → zw_H → Prop, zcI 1 mX7_faultOf [.ref 0, .int v1, .int v1, .int x1] h1 q2 ∧ (∀ (x2 : Int32) (h2 : zw_H), q2 x2 h2 → ((x2 = 0 → (∃ q3 : zw_H → Prop, zcV 3 mX7_spellRegister [.ref 0, .int v1] h2 q3 ∧ (∀ h3 : zw_H, q3 h3 → (∃ j4 : Nat, v2 = nI j4 ∧ j4 < 6 ∧ q (h3.1 49 j4) h3)))) ∧ (¬ x2 = 0 → q x2 h2))))))) : zwI 4 mX7_blockOf q 0 [(0, .ref 0), (1, .int v1), (2, .int v2)] [] h := by
  refine zw_aload_n 0 dX7_blockOf_0 rfl rfl rfl ?_
  refine zw_iload_n 1 dX7_blockOf_1 rfl rfl rfl ?_
  refine zw_iload_n 1 dX7_blockOf_2 rfl rfl rfl ?_
  refine zw_aload_n 0 dX7_blockOf_3 rfl rfl rfl ?_
  refine zw_iload_n 2 dX7_blockOf_4 rfl rfl rfl ?_
  obtain ⟨q1, ct, K⟩ := K
  refine zw_callV (n := 1) (As := [.int v2]) (rest := [.int v1, .int v1, .ref 0]) ct my_X7_isElement rfl rfl k_X7_93 i_X7_isElement s_X7_isElement zs_0 rfl dX7_blockOf_5 (by decide) (Nat.le_of_ble_eq_true rfl) (Nat.le_refl 0) (Nat.le_refl 0) rfl (fun r s1 h1 hq => ?_)
  obtain ⟨x1, rfl, rfl, hq⟩ := hq
  have K := K x1 h1 hq
  refine zw.st (st' := [.int x1, .int v1, .int v1, .ref 0]) rfl ?_
  obtain ⟨q2, ct, K⟩ := K
  refine zw_callV (n := 3) (As := [.int v1, .int v1, .int x1]) (rest := []) ct my_X7_faultOf rfl rfl k_X7_130 i_X7_faultOf s_X7_faultOf zs_0 rfl dX7_blockOf_8 (by decide) (Nat.le_of_ble_eq_true rfl) (Nat.le_refl 0) (Nat.le_refl 0) rfl (fun r s1 h2 hq => ?_)
  obtain ⟨x2, rfl, rfl, hq⟩ := hq
  have K := K x2 h2 hq
  refine zw.st (st' := [.int x2]) rfl ?_
  refine zw_istore_n dX7_blockOf_11 rfl (by decide) rfl rfl ?_
  refine zw_iload_n 0 dX7_blockOf_12 rfl rfl rfl ?_
  refine zw_if_eq (tg := 18) dX7_blockOf_13 (by decide) rfl (fun c => ?_) (fun c => ?_)
  · have K := K.1 c
    refine zw_aload_n 1 dX7_blockOf_18 rfl rfl rfl ?_
    refine zw_iload_n 2 dX7_blockOf_19 rfl rfl rfl ?_
    obtain ⟨q3, ct, K⟩ := K
    refine zw_callV (n := 1) (As := [.int v1]) (rest := []) ct my_X7_spellRegister rfl rfl k_X7_145 i_X7_spellRegister s_X7_spellRegister zs_0 rfl dX7_blockOf_20 (by decide) (Nat.le_of_ble_eq_true rfl) (Nat.le_refl 0) (Nat.le_refl 0) rfl (fun r s1 h3 hq => ?_)
    obtain ⟨rfl, rfl, hq⟩ := hq
    have K := K h3 hq
    refine zw.st (st' := []) rfl ?_
    refine zw_aload_n 1 dX7_blockOf_23 rfl rfl rfl ?_
    refine zw_getR f_X7_54 dX7_blockOf_24 zs_0 rfl rfl ?_
    refine zw_getR f_X7_180 dX7_blockOf_27 zs_48 rfl rfl ?_
    refine zw_iload_n 3 dX7_blockOf_30 rfl rfl rfl ?_
    obtain ⟨j4, hj4, hn4, K⟩ := K
    refine zw_iald j4 dX7_blockOf_31 zs_49 ⟨hj4, hn4⟩ (by decide) rfl ?_
    exact zw_ireturn (ty := .int) dX7_blockOf_32 rfl rfl (Nat.le_refl 0) (Nat.le_refl 0) ⟨_, rfl, rfl, K⟩
  · have K := K.2 c
    refine zw_iload_n 0 dX7_blockOf_16 rfl rfl rfl ?_
    exact zw_ireturn (ty := .int) dX7_blockOf_17 rfl rfl (Nat.le_refl 0) (Nat.le_refl 0) ⟨_, rfl, rfl, K⟩

set_option maxRecDepth 100000 in
set_option maxHeartbeats 4000000 in
theorem rX7_block_0 {q : Int32 → zw_H → Prop} {h : zw_H} {v1 v2 : Int32} (K : (∃ q1 : Int32 → zw_H → Prop, zcI 1 mX7_faultOf [.ref 0, .int v1, .int v1, .int (1 : Int32)] h q1 ∧ (∀ (x1 : Int32) (h1 : zw_H), q1 x1 h1 → ((x1 = 0 → (∃ q2 : zw_H → Prop, zcV 3 mX7_spellRegister [.ref 0, .int v1] h1 q2 ∧ (∀ h2 : zw_H, q2 h2 → ((v2 < 0 → q (-9 : Int32) h2) ∧ (¬ v2 < 0 → ((v2 < (h2.1 48 3) → (∃ j3 : Nat, v2 = nI j3 ∧ j3 < 6 ∧ q (h2.1 50 j3) h2)) ∧ (¬ v2 < (h2.1 48 3) → q (-9 : Int32) h2))))))) ∧ (¬ x1 = 0 → q x1 h1))))) : zwI 4 mX7_block q 0 [(0, .ref 0), (1, .int v1), (2, .int v2)] [] h := by
  refine zw_aload_n 0 dX7_block_0 rfl rfl rfl ?_
  refine zw_iload_n 1 dX7_block_1 rfl rfl rfl ?_
  refine zw_iload_n 1 dX7_block_2 rfl rfl rfl ?_
  refine zw_iconst (v := (1 : Int32)) dX7_block_3 (by decide) rfl ?_
  obtain ⟨q1, ct, K⟩ := K
  refine zw_callV (n := 3) (As := [.int v1, .int v1, .int (1 : Int32)]) (rest := []) ct my_X7_faultOf rfl rfl k_X7_130 i_X7_faultOf s_X7_faultOf zs_0 rfl dX7_block_4 (by decide) (Nat.le_of_ble_eq_true rfl) (Nat.le_refl 0) (Nat.le_refl 0) rfl (fun r s1 h1 hq => ?_)
  obtain ⟨x1, rfl, rfl, hq⟩ := hq
  have K := K x1 h1 hq
  refine zw.st (st' := [.int x1]) rfl ?_
  refine zw_istore_n dX7_block_7 rfl (by decide) rfl rfl ?_
  refine zw_iload_n 0 dX7_block_8 rfl rfl rfl ?_
  refine zw_if_eq (tg := 14) dX7_block_9 (by decide) rfl (fun c => ?_) (fun c => ?_)
  · have K := K.1 c
    refine zw_aload_n 1 dX7_block_14 rfl rfl rfl ?_
    refine zw_iload_n 2 dX7_block_15 rfl rfl rfl ?_
    obtain ⟨q2, ct, K⟩ := K
    refine zw_callV (n := 1) (As := [.int v1]) (rest := []) ct my_X7_spellRegister rfl rfl k_X7_145 i_X7_spellRegister s_X7_spellRegister zs_0 rfl dX7_block_16 (by decide) (Nat.le_of_ble_eq_true rfl) (Nat.le_refl 0) (Nat.le_refl 0) rfl (fun r s1 h2 hq => ?_)
    obtain ⟨rfl, rfl, hq⟩ := hq
    have K := K h2 hq
    refine zw.st (st' := []) rfl ?_
    refine zw_iload_n 3 dX7_block_19 rfl rfl rfl ?_
    refine zw_if_lt (tg := 34) dX7_block_20 (by decide) rfl (fun c => ?_) (fun c => ?_)
    · have K := K.1 c
      refine zw_bipush (v := (-9 : Int32)) dX7_block_34 (by decide) rfl ?_
      refine zw_goto (np := 48) dX7_block_36 (by decide) ?_
      exact zw_ireturn (ty := .int) dX7_block_48 rfl rfl (Nat.le_refl 0) (Nat.le_refl 0) ⟨_, rfl, rfl, K⟩
    · have K := K.2 c
      refine zw_iload_n 3 dX7_block_23 rfl rfl rfl ?_
      refine zw_aload_n 1 dX7_block_24 rfl rfl rfl ?_
      refine zw_getR f_X7_54 dX7_block_25 zs_0 rfl rfl ?_
      refine zw_getI f_X7_183 dX7_block_28 zs_48 rfl rfl ?_
      refine zw_icmp_lt (tg := 39) dX7_block_31 (by decide) rfl (fun c => ?_) (fun c => ?_)
      · have K := K.1 c
        refine zw_aload_n 1 dX7_block_39 rfl rfl rfl ?_
        refine zw_getR f_X7_54 dX7_block_40 zs_0 rfl rfl ?_
        refine zw_getR f_X7_186 dX7_block_43 zs_48 rfl rfl ?_
        refine zw_iload_n 3 dX7_block_46 rfl rfl rfl ?_
        obtain ⟨j3, hj3, hn3, K⟩ := K
        refine zw_iald j3 dX7_block_47 zs_50 ⟨hj3, hn3⟩ (by decide) rfl ?_
        exact zw_ireturn (ty := .int) dX7_block_48 rfl rfl (Nat.le_refl 0) (Nat.le_refl 0) ⟨_, rfl, rfl, K⟩
      · have K := K.2 c
        refine zw_bipush (v := (-9 : Int32)) dX7_block_34 (by decide) rfl ?_
        refine zw_goto (np := 48) dX7_block_36 (by decide) ?_
        exact zw_ireturn (ty := .int) dX7_block_48 rfl rfl (Nat.le_refl 0) (Nat.le_refl 0) ⟨_, rfl, rfl, K⟩
  · have K := K.2 c
    refine zw_iload_n 0 dX7_block_12 rfl rfl rfl ?_
    exact zw_ireturn (ty := .int) dX7_block_13 rfl rfl (Nat.le_refl 0) (Nat.le_refl 0) ⟨_, rfl, rfl, K⟩

set_option maxRecDepth 100000 in
set_option maxHeartbeats 4000000 in
theorem rX7_typeOf_0 {q : Int32 → zw_H → Prop} {h : zw_H} {v1 : Int32} (K : (∃ q1 : Int32 → zw_H → Prop, zcI 1 mX7_faultOf [.ref 0, .int v1, .int v1, .int (1 : Int32)] h q1 ∧ (∀ (x1 : Int32) (h1 : zw_H), q1 x1 h1 → ((x1 = 0 → (∃ q2 : zw_H → Prop, zcV 3 mX7_spellRegister [.ref 0, .int v1] h1 q2 ∧ (∀ h2 : zw_H, q2 h2 → (∃ q3 : Int32 → zw_H → Prop, zcI 1 mX3_typeNumber [.ref 48] h2 q3 ∧ (∀ (x3 : Int32) (h3 : zw_H), q3 x3 h3 → q x3 h3))))) ∧ (¬ x1 = 0 → q x1 h1))))) : zwI 4 mX7_typeOf q 0 [(0, .ref 0), (1, .int v1)] [] h := by
  refine zw_aload_n 0 dX7_typeOf_0 rfl rfl rfl ?_
  refine zw_iload_n 1 dX7_typeOf_1 rfl rfl rfl ?_
  refine zw_iload_n 1 dX7_typeOf_2 rfl rfl rfl ?_
  refine zw_iconst (v := (1 : Int32)) dX7_typeOf_3 (by decide) rfl ?_
  obtain ⟨q1, ct, K⟩ := K
  refine zw_callV (n := 3) (As := [.int v1, .int v1, .int (1 : Int32)]) (rest := []) ct my_X7_faultOf rfl rfl k_X7_130 i_X7_faultOf s_X7_faultOf zs_0 rfl dX7_typeOf_4 (by decide) (Nat.le_of_ble_eq_true rfl) (Nat.le_refl 0) (Nat.le_refl 0) rfl (fun r s1 h1 hq => ?_)
  obtain ⟨x1, rfl, rfl, hq⟩ := hq
  have K := K x1 h1 hq
  refine zw.st (st' := [.int x1]) rfl ?_
  refine zw_istore_n dX7_typeOf_7 rfl (by decide) rfl rfl ?_
  refine zw_iload_n 0 dX7_typeOf_8 rfl rfl rfl ?_
  refine zw_if_eq (tg := 14) dX7_typeOf_9 (by decide) rfl (fun c => ?_) (fun c => ?_)
  · have K := K.1 c
    refine zw_aload_n 1 dX7_typeOf_14 rfl rfl rfl ?_
    refine zw_iload_n 2 dX7_typeOf_15 rfl rfl rfl ?_
    obtain ⟨q2, ct, K⟩ := K
    refine zw_callV (n := 1) (As := [.int v1]) (rest := []) ct my_X7_spellRegister rfl rfl k_X7_145 i_X7_spellRegister s_X7_spellRegister zs_0 rfl dX7_typeOf_16 (by decide) (Nat.le_of_ble_eq_true rfl) (Nat.le_refl 0) (Nat.le_refl 0) rfl (fun r s1 h2 hq => ?_)
    obtain ⟨rfl, rfl, hq⟩ := hq
    have K := K h2 hq
    refine zw.st (st' := []) rfl ?_
    refine zw_aload_n 1 dX7_typeOf_19 rfl rfl rfl ?_
    refine zw_getR f_X7_54 dX7_typeOf_20 zs_0 rfl rfl ?_
    obtain ⟨q3, ct, K⟩ := K
    refine zw_callV (n := 0) (As := []) (rest := []) ct my_X3_typeNumber rfl rfl k_X7_189 i_X3_typeNumber s_X3_typeNumber zs_48 rfl dX7_typeOf_23 (by decide) (Nat.le_of_ble_eq_true rfl) (Nat.le_refl 0) (Nat.le_refl 0) rfl (fun r s1 h3 hq => ?_)
    obtain ⟨x3, rfl, rfl, hq⟩ := hq
    have K := K x3 h3 hq
    refine zw.st (st' := [.int x3]) rfl ?_
    exact zw_ireturn (ty := .int) dX7_typeOf_26 rfl rfl (Nat.le_refl 0) (Nat.le_refl 0) ⟨_, rfl, rfl, K⟩
  · have K := K.2 c
    refine zw_iload_n 0 dX7_typeOf_12 rfl rfl rfl ?_
    exact zw_ireturn (ty := .int) dX7_typeOf_13 rfl rfl (Nat.le_refl 0) (Nat.le_refl 0) ⟨_, rfl, rfl, K⟩

set_option maxRecDepth 100000 in
set_option maxHeartbeats 4000000 in
theorem rX7_crossings_0 {q : Int32 → zw_H → Prop} {h : zw_H} {v1 : Int32} (K : (∃ q1 : Int32 → zw_H → Prop, zcI 1 mX7_faultOf [.ref 0, .int v1, .int v1, .int (1 : Int32)] h q1 ∧ (∀ (x1 : Int32) (h1 : zw_H), q1 x1 h1 → ((x1 = 0 → (∃ q2 : zw_H → Prop, zcV 3 mX7_spellRegister [.ref 0, .int v1] h1 q2 ∧ (∀ h2 : zw_H, q2 h2 → (∃ q3 : Int32 → zw_H → Prop, zcI 1 mX3_crossingCount [.ref 48] h2 q3 ∧ (∀ (x3 : Int32) (h3 : zw_H), q3 x3 h3 → q x3 h3))))) ∧ (¬ x1 = 0 → q x1 h1))))) : zwI 4 mX7_crossings q 0 [(0, .ref 0), (1, .int v1)] [] h := by
  refine zw_aload_n 0 dX7_crossings_0 rfl rfl rfl ?_
  refine zw_iload_n 1 dX7_crossings_1 rfl rfl rfl ?_
  refine zw_iload_n 1 dX7_crossings_2 rfl rfl rfl ?_
  refine zw_iconst (v := (1 : Int32)) dX7_crossings_3 (by decide) rfl ?_
  obtain ⟨q1, ct, K⟩ := K
  refine zw_callV (n := 3) (As := [.int v1, .int v1, .int (1 : Int32)]) (rest := []) ct my_X7_faultOf rfl rfl k_X7_130 i_X7_faultOf s_X7_faultOf zs_0 rfl dX7_crossings_4 (by decide) (Nat.le_of_ble_eq_true rfl) (Nat.le_refl 0) (Nat.le_refl 0) rfl (fun r s1 h1 hq => ?_)
  obtain ⟨x1, rfl, rfl, hq⟩ := hq
  have K := K x1 h1 hq
  refine zw.st (st' := [.int x1]) rfl ?_
  refine zw_istore_n dX7_crossings_7 rfl (by decide) rfl rfl ?_
  refine zw_iload_n 0 dX7_crossings_8 rfl rfl rfl ?_
  refine zw_if_eq (tg := 14) dX7_crossings_9 (by decide) rfl (fun c => ?_) (fun c => ?_)
  · have K := K.1 c
    refine zw_aload_n 1 dX7_crossings_14 rfl rfl rfl ?_
    refine zw_iload_n 2 dX7_crossings_15 rfl rfl rfl ?_
    obtain ⟨q2, ct, K⟩ := K
    refine zw_callV (n := 1) (As := [.int v1]) (rest := []) ct my_X7_spellRegister rfl rfl k_X7_145 i_X7_spellRegister s_X7_spellRegister zs_0 rfl dX7_crossings_16 (by decide) (Nat.le_of_ble_eq_true rfl) (Nat.le_refl 0) (Nat.le_refl 0) rfl (fun r s1 h2 hq => ?_)
    obtain ⟨rfl, rfl, hq⟩ := hq
    have K := K h2 hq
    refine zw.st (st' := []) rfl ?_
    refine zw_aload_n 1 dX7_crossings_19 rfl rfl rfl ?_
    refine zw_getR f_X7_54 dX7_crossings_20 zs_0 rfl rfl ?_
    obtain ⟨q3, ct, K⟩ := K
    refine zw_callV (n := 0) (As := []) (rest := []) ct my_X3_crossingCount rfl rfl k_X7_192 i_X3_crossingCount s_X3_crossingCount zs_48 rfl dX7_crossings_23 (by decide) (Nat.le_of_ble_eq_true rfl) (Nat.le_refl 0) (Nat.le_refl 0) rfl (fun r s1 h3 hq => ?_)
    obtain ⟨x3, rfl, rfl, hq⟩ := hq
    have K := K x3 h3 hq
    refine zw.st (st' := [.int x3]) rfl ?_
    exact zw_ireturn (ty := .int) dX7_crossings_26 rfl rfl (Nat.le_refl 0) (Nat.le_refl 0) ⟨_, rfl, rfl, K⟩
  · have K := K.2 c
    refine zw_iload_n 0 dX7_crossings_12 rfl rfl rfl ?_
    exact zw_ireturn (ty := .int) dX7_crossings_13 rfl rfl (Nat.le_refl 0) (Nat.le_refl 0) ⟨_, rfl, rfl, K⟩

set_option maxRecDepth 100000 in
set_option maxHeartbeats 4000000 in
theorem rX7_index_0 {q : Int32 → zw_H → Prop} {h : zw_H} {v1 : Int32} (K : (∃ q1 : Int32 → zw_H → Prop, zcI 1 mX7_faultOf [.ref 0, .int v1, .int v1, .int (1 : Int32)] h q1 ∧ (∀ (x1 : Int32) (h1 : zw_H), q1 x1 h1 → ((x1 = 0 → (∃ j2 : Nat, v1 = nI j2 ∧ j2 < 8 ∧ (∃ q3 : Int32 → zw_H → Prop, zcI 0 mX2_find [.ref 37, .int (h1.1 2 j2)] h1 q3 ∧ (∀ (x3 : Int32) (h3 : zw_H), q3 x3 h3 → q x3 h3)))) ∧ (¬ x1 = 0 → q x1 h1))))) : zwI 2 mX7_index q 0 [(0, .ref 0), (1, .int v1)] [] h := by
  refine zw_aload_n 0 dX7_index_0 rfl rfl rfl ?_
  refine zw_iload_n 1 dX7_index_1 rfl rfl rfl ?_
  refine zw_iload_n 1 dX7_index_2 rfl rfl rfl ?_
  refine zw_iconst (v := (1 : Int32)) dX7_index_3 (by decide) rfl ?_
  obtain ⟨q1, ct, K⟩ := K
  refine zw_callV (n := 3) (As := [.int v1, .int v1, .int (1 : Int32)]) (rest := []) ct my_X7_faultOf rfl rfl k_X7_130 i_X7_faultOf s_X7_faultOf zs_0 rfl dX7_index_4 (by decide) (Nat.le_of_ble_eq_true rfl) (Nat.le_refl 0) (Nat.le_refl 0) rfl (fun r s1 h1 hq => ?_)
  obtain ⟨x1, rfl, rfl, hq⟩ := hq
  have K := K x1 h1 hq
  refine zw.st (st' := [.int x1]) rfl ?_
  refine zw_istore_n dX7_index_7 rfl (by decide) rfl rfl ?_
  refine zw_iload_n 0 dX7_index_8 rfl rfl rfl ?_
  refine zw_if_eq (tg := 16) dX7_index_9 (by decide) rfl (fun c => ?_) (fun c => ?_)
  · have K := K.1 c
    refine zw_aload_n 1 dX7_index_16 rfl rfl rfl ?_
    refine zw_getR f_X7_40 dX7_index_17 zs_0 rfl rfl ?_
    refine zw_aload_n 1 dX7_index_20 rfl rfl rfl ?_
    refine zw_getR f_X7_10 dX7_index_21 zs_0 rfl rfl ?_
    refine zw_getR f_X7_133 dX7_index_24 zs_1 rfl rfl ?_
    refine zw_iload_n 2 dX7_index_27 rfl rfl rfl ?_
    obtain ⟨j2, hj2, hn2, K⟩ := K
    refine zw_iald j2 dX7_index_28 zs_2 ⟨hj2, hn2⟩ (by decide) rfl ?_
    obtain ⟨q3, ct, K⟩ := K
    refine zw_callV (n := 1) (As := [.int (h1.1 2 j2)]) (rest := []) ct my_X2_find rfl rfl k_X7_195 i_X2_find s_X2_find zs_37 rfl dX7_index_29 (by decide) (Nat.le_of_ble_eq_true rfl) (Nat.le_refl 0) (Nat.le_refl 0) rfl (fun r s1 h3 hq => ?_)
    obtain ⟨x3, rfl, rfl, hq⟩ := hq
    have K := K x3 h3 hq
    refine zw.st (st' := [.int x3]) rfl ?_
    exact zw_ireturn (ty := .int) dX7_index_32 rfl rfl (Nat.le_refl 0) (Nat.le_refl 0) ⟨_, rfl, rfl, K⟩
  · have K := K.2 c
    refine zw_iload_n 0 dX7_index_12 rfl rfl rfl ?_
    refine zw_goto (np := 32) dX7_index_13 (by decide) ?_
    exact zw_ireturn (ty := .int) dX7_index_32 rfl rfl (Nat.le_refl 0) (Nat.le_refl 0) ⟨_, rfl, rfl, K⟩

set_option maxRecDepth 100000 in
set_option maxHeartbeats 4000000 in
theorem rX7_why_0 {q : Int32 → zw_H → Prop} {h : zw_H} {v1 : Int32} (K : (∃ q1 : Int32 → zw_H → Prop, zcI 1 mX7_faultOf [.ref 0, .int v1, .int v1, .int (1 : Int32)] h q1 ∧ (∀ (x1 : Int32) (h1 : zw_H), q1 x1 h1 → ((x1 = 0 → (∃ j2 : Nat, v1 = nI j2 ∧ j2 < 8 ∧ (∃ q3 : zw_H → Prop, zcV 3 mX7_spellRegister [.ref 0, .int v1] h1 q3 ∧ (∀ h3 : zw_H, q3 h3 → (∃ q4 : Int32 → zw_H → Prop, zcI 1 mX3_firstCrossing [.ref 48] h3 q4 ∧ (∀ (x4 : Int32) (h4 : zw_H), q4 x4 h4 → ((x4 = (-9 : Int32) → (∃ q5 : Int32 → zw_H → Prop, zcI 1 mX3_sizeSet [.ref 48] h4 q5 ∧ (∀ (x5 : Int32) (h5 : zw_H), q5 x5 h5 → (∃ q6 : Int32 → zw_H → Prop, zcI 0 mX5_reason [.ref 1, .int (h1.1 2 j2), .int x5, .int (h5.1 48 3), .int (0 : Int32)] h5 q6 ∧ (∀ (x6 : Int32) (h6 : zw_H), q6 x6 h6 → q x6 h6))))) ∧ (¬ x4 = (-9 : Int32) → (∃ q7 : Int32 → zw_H → Prop, zcI 1 mX3_sizeSet [.ref 48] h4 q7 ∧ (∀ (x7 : Int32) (h7 : zw_H), q7 x7 h7 → (∃ q8 : Int32 → zw_H → Prop, zcI 0 mX5_reason [.ref 1, .int (h1.1 2 j2), .int x7, .int (h7.1 48 3), .int (1 : Int32)] h7 q8 ∧ (∀ (x8 : Int32) (h8 : zw_H), q8 x8 h8 → q x8 h8)))))))))))) ∧ (¬ x1 = 0 → q x1 h1))))) : zwI 4 mX7_why q 0 [(0, .ref 0), (1, .int v1)] [] h := by
  refine zw_aload_n 0 dX7_why_0 rfl rfl rfl ?_
  refine zw_iload_n 1 dX7_why_1 rfl rfl rfl ?_
  refine zw_iload_n 1 dX7_why_2 rfl rfl rfl ?_
  refine zw_iconst (v := (1 : Int32)) dX7_why_3 (by decide) rfl ?_
  obtain ⟨q1, ct, K⟩ := K
  refine zw_callV (n := 3) (As := [.int v1, .int v1, .int (1 : Int32)]) (rest := []) ct my_X7_faultOf rfl rfl k_X7_130 i_X7_faultOf s_X7_faultOf zs_0 rfl dX7_why_4 (by decide) (Nat.le_of_ble_eq_true rfl) (Nat.le_refl 0) (Nat.le_refl 0) rfl (fun r s1 h1 hq => ?_)
  obtain ⟨x1, rfl, rfl, hq⟩ := hq
  have K := K x1 h1 hq
  refine zw.st (st' := [.int x1]) rfl ?_
  refine zw_istore_n dX7_why_7 rfl (by decide) rfl rfl ?_
  refine zw_iload_n 0 dX7_why_8 rfl rfl rfl ?_
  refine zw_if_eq (tg := 14) dX7_why_9 (by decide) rfl (fun c => ?_) (fun c => ?_)
  · have K := K.1 c
    refine zw_aload_n 1 dX7_why_14 rfl rfl rfl ?_
    refine zw_getR f_X7_10 dX7_why_15 zs_0 rfl rfl ?_
    refine zw_getR f_X7_133 dX7_why_18 zs_1 rfl rfl ?_
    refine zw_iload_n 2 dX7_why_21 rfl rfl rfl ?_
    obtain ⟨j2, hj2, hn2, K⟩ := K
    refine zw_iald j2 dX7_why_22 zs_2 ⟨hj2, hn2⟩ (by decide) rfl ?_
    refine zw_istore_n dX7_why_23 rfl (by decide) rfl rfl ?_
    refine zw_aload_n 2 dX7_why_24 rfl rfl rfl ?_
    refine zw_iload_n 3 dX7_why_25 rfl rfl rfl ?_
    obtain ⟨q3, ct, K⟩ := K
    refine zw_callV (n := 1) (As := [.int v1]) (rest := []) ct my_X7_spellRegister rfl rfl k_X7_145 i_X7_spellRegister s_X7_spellRegister zs_0 rfl dX7_why_26 (by decide) (Nat.le_of_ble_eq_true rfl) (Nat.le_refl 0) (Nat.le_refl 0) rfl (fun r s1 h3 hq => ?_)
    obtain ⟨rfl, rfl, hq⟩ := hq
    have K := K h3 hq
    refine zw.st (st' := []) rfl ?_
    refine zw_aload_n 2 dX7_why_29 rfl rfl rfl ?_
    refine zw_getR f_X7_54 dX7_why_30 zs_0 rfl rfl ?_
    obtain ⟨q4, ct, K⟩ := K
    refine zw_callV (n := 0) (As := []) (rest := []) ct my_X3_firstCrossing rfl rfl k_X7_148 i_X3_firstCrossing s_X3_firstCrossing zs_48 rfl dX7_why_33 (by decide) (Nat.le_of_ble_eq_true rfl) (Nat.le_refl 0) (Nat.le_refl 0) rfl (fun r s1 h4 hq => ?_)
    obtain ⟨x4, rfl, rfl, hq⟩ := hq
    have K := K x4 h4 hq
    refine zw.st (st' := [.int x4]) rfl ?_
    refine zw_bipush (v := (-9 : Int32)) dX7_why_36 (by decide) rfl ?_
    refine zw_icmp_eq (tg := 45) dX7_why_38 (by decide) rfl (fun c => ?_) (fun c => ?_)
    · have K := K.1 c
      refine zw_iconst (v := (0 : Int32)) dX7_why_45 (by decide) rfl ?_
      refine zw_istore dX7_why_46 (by decide) rfl rfl ?_
      refine zw_aload_n 3 dX7_why_48 rfl rfl rfl ?_
      refine zw_getR f_X7_10 dX7_why_49 zs_0 rfl rfl ?_
      refine zw_iload_n 1 dX7_why_52 rfl rfl rfl ?_
      refine zw_aload_n 3 dX7_why_53 rfl rfl rfl ?_
      refine zw_getR f_X7_54 dX7_why_54 zs_0 rfl rfl ?_
      obtain ⟨q5, ct, K⟩ := K
      refine zw_callV (n := 0) (As := []) (rest := [.int (h1.1 2 j2), .ref 1]) ct my_X3_sizeSet rfl rfl k_X7_198 i_X3_sizeSet s_X3_sizeSet zs_48 rfl dX7_why_57 (by decide) (Nat.le_of_ble_eq_true rfl) (Nat.le_refl 0) (Nat.le_refl 0) rfl (fun r s1 h5 hq => ?_)
      obtain ⟨x5, rfl, rfl, hq⟩ := hq
      have K := K x5 h5 hq
      refine zw.st (st' := [.int x5, .int (h1.1 2 j2), .ref 1]) rfl ?_
      refine zw_aload_n 3 dX7_why_60 rfl rfl rfl ?_
      refine zw_getR f_X7_54 dX7_why_61 zs_0 rfl rfl ?_
      refine zw_getI f_X7_183 dX7_why_64 zs_48 rfl rfl ?_
      refine zw_iload 0 dX7_why_67 rfl rfl ?_
      obtain ⟨q6, ct, K⟩ := K
      refine zw_callV (n := 4) (As := [.int (h1.1 2 j2), .int x5, .int (h5.1 48 3), .int (0 : Int32)]) (rest := []) ct my_X5_reason rfl rfl k_X7_201 i_X5_reason s_X5_reason zs_1 rfl dX7_why_69 (by decide) (Nat.le_of_ble_eq_true rfl) (Nat.le_refl 0) (Nat.le_refl 0) rfl (fun r s1 h6 hq => ?_)
      obtain ⟨x6, rfl, rfl, hq⟩ := hq
      have K := K x6 h6 hq
      refine zw.st (st' := [.int x6]) rfl ?_
      exact zw_ireturn (ty := .int) dX7_why_72 rfl rfl (Nat.le_refl 0) (Nat.le_refl 0) ⟨_, rfl, rfl, K⟩
    · have K := K.2 c
      refine zw_iconst (v := (1 : Int32)) dX7_why_41 (by decide) rfl ?_
      refine zw_goto (np := 46) dX7_why_42 (by decide) ?_
      refine zw_istore dX7_why_46 (by decide) rfl rfl ?_
      refine zw_aload_n 3 dX7_why_48 rfl rfl rfl ?_
      refine zw_getR f_X7_10 dX7_why_49 zs_0 rfl rfl ?_
      refine zw_iload_n 1 dX7_why_52 rfl rfl rfl ?_
      refine zw_aload_n 3 dX7_why_53 rfl rfl rfl ?_
      refine zw_getR f_X7_54 dX7_why_54 zs_0 rfl rfl ?_
      obtain ⟨q7, ct, K⟩ := K
      refine zw_callV (n := 0) (As := []) (rest := [.int (h1.1 2 j2), .ref 1]) ct my_X3_sizeSet rfl rfl k_X7_198 i_X3_sizeSet s_X3_sizeSet zs_48 rfl dX7_why_57 (by decide) (Nat.le_of_ble_eq_true rfl) (Nat.le_refl 0) (Nat.le_refl 0) rfl (fun r s1 h7 hq => ?_)
      obtain ⟨x7, rfl, rfl, hq⟩ := hq
      have K := K x7 h7 hq
      refine zw.st (st' := [.int x7, .int (h1.1 2 j2), .ref 1]) rfl ?_
      refine zw_aload_n 3 dX7_why_60 rfl rfl rfl ?_
      refine zw_getR f_X7_54 dX7_why_61 zs_0 rfl rfl ?_
      refine zw_getI f_X7_183 dX7_why_64 zs_48 rfl rfl ?_
      refine zw_iload 0 dX7_why_67 rfl rfl ?_
      obtain ⟨q8, ct, K⟩ := K
      refine zw_callV (n := 4) (As := [.int (h1.1 2 j2), .int x7, .int (h7.1 48 3), .int (1 : Int32)]) (rest := []) ct my_X5_reason rfl rfl k_X7_201 i_X5_reason s_X5_reason zs_1 rfl dX7_why_69 (by decide) (Nat.le_of_ble_eq_true rfl) (Nat.le_refl 0) (Nat.le_refl 0) rfl (fun r s1 h8 hq => ?_)
      obtain ⟨x8, rfl, rfl, hq⟩ := hq
      have K := K x8 h8 hq
      refine zw.st (st' := [.int x8]) rfl ?_
      exact zw_ireturn (ty := .int) dX7_why_72 rfl rfl (Nat.le_refl 0) (Nat.le_refl 0) ⟨_, rfl, rfl, K⟩
  · have K := K.2 c
    refine zw_iload_n 0 dX7_why_12 rfl rfl rfl ?_
    exact zw_ireturn (ty := .int) dX7_why_13 rfl rfl (Nat.le_refl 0) (Nat.le_refl 0) ⟨_, rfl, rfl, K⟩

set_option maxRecDepth 100000 in
set_option maxHeartbeats 4000000 in
theorem rX7_where_0 {q : Int32 → zw_H → Prop} {h : zw_H} {v1 : Int32} (K : (∃ q1 : Int32 → zw_H → Prop, zcI 4 mX7_why [.ref 0, .int v1] h q1 ∧ (∀ (x1 : Int32) (h1 : zw_H), q1 x1 h1 → ((0 ≤ x1 → (∃ j2 : Nat, v1 = nI j2 ∧ j2 < 8 ∧ (∃ q3 : zw_H → Prop, zcV 3 mX7_spellRegister [.ref 0, .int v1] h1 q3 ∧ (∀ h3 : zw_H, q3 h3 → (((Int32.toInt x1 < 1 ∨ 5 < Int32.toInt x1) → q (-9 : Int32) h3) ∧ (x1 = (1 : Int32) → (∃ q4 : Int32 → zw_H → Prop, zcI 1 mX3_firstBlockNotIn [.ref 48, .int (h3.1 1 2)] h3 q4 ∧ (∀ (x4 : Int32) (h4 : zw_H), q4 x4 h4 → q x4 h4))) ∧ (x1 = (2 : Int32) → q (h3.1 48 3) h3) ∧ (x1 = (3 : Int32) → (∃ q5 : Int32 → zw_H → Prop, zcI 0 mX7_firstPair [.int ((h1.1 2 j2) &&& (h3.1 1 4))] h3 q5 ∧ (∀ (x5 : Int32) (h5 : zw_H), q5 x5 h5 → q x5 h5))) ∧ (x1 = (4 : Int32) → (∃ q6 : Int32 → zw_H → Prop, zcI 0 mX7_firstPair [.int ((h3.1 1 5) &&& ((h1.1 2 j2) ^^^ (-1 : Int32)))] h3 q6 ∧ (∀ (x6 : Int32) (h6 : zw_H), q6 x6 h6 → q x6 h6))) ∧ (x1 = (5 : Int32) → (∃ q7 : Int32 → zw_H → Prop, zcI 1 mX3_firstCrossing [.ref 48] h3 q7 ∧ (∀ (x7 : Int32) (h7 : zw_H), q7 x7 h7 → q x7 h7)))))))) ∧ (¬ 0 ≤ x1 → q x1 h1))))) : zwI 5 mX7_where q 0 [(0, .ref 0), (1, .int v1)] [] h := by
  refine zw_aload_n 0 dX7_where_0 rfl rfl rfl ?_
  refine zw_iload_n 1 dX7_where_1 rfl rfl rfl ?_
  obtain ⟨q1, ct, K⟩ := K
  refine zw_callV (n := 1) (As := [.int v1]) (rest := []) ct my_X7_why rfl rfl k_X7_205 i_X7_why s_X7_why zs_0 rfl dX7_where_2 (by decide) (Nat.le_of_ble_eq_true rfl) (Nat.le_refl 0) (Nat.le_refl 0) rfl (fun r s1 h1 hq => ?_)
  obtain ⟨x1, rfl, rfl, hq⟩ := hq
  have K := K x1 h1 hq
  refine zw.st (st' := [.int x1]) rfl ?_
  refine zw_istore_n dX7_where_5 rfl (by decide) rfl rfl ?_
  refine zw_iload_n 0 dX7_where_6 rfl rfl rfl ?_
  refine zw_if_ge (tg := 12) dX7_where_7 (by decide) rfl (fun c => ?_) (fun c => ?_)
  · have K := K.1 c
    refine zw_aload_n 1 dX7_where_12 rfl rfl rfl ?_
    refine zw_getR f_X7_10 dX7_where_13 zs_0 rfl rfl ?_
    refine zw_getR f_X7_133 dX7_where_16 zs_1 rfl rfl ?_
    refine zw_iload_n 2 dX7_where_19 rfl rfl rfl ?_
    obtain ⟨j2, hj2, hn2, K⟩ := K
    refine zw_iald j2 dX7_where_20 zs_2 ⟨hj2, hn2⟩ (by decide) rfl ?_
    refine zw_istore_n dX7_where_21 rfl (by decide) rfl rfl ?_
    refine zw_aload_n 2 dX7_where_22 rfl rfl rfl ?_
    refine zw_iload_n 3 dX7_where_23 rfl rfl rfl ?_
    obtain ⟨q3, ct, K⟩ := K
    refine zw_callV (n := 1) (As := [.int v1]) (rest := []) ct my_X7_spellRegister rfl rfl k_X7_145 i_X7_spellRegister s_X7_spellRegister zs_0 rfl dX7_where_24 (by decide) (Nat.le_of_ble_eq_true rfl) (Nat.le_refl 0) (Nat.le_refl 0) rfl (fun r s1 h3 hq => ?_)
    obtain ⟨rfl, rfl, hq⟩ := hq
    have K := K h3 hq
    refine zw.st (st' := []) rfl ?_
    refine zw_iload_n 1 dX7_where_27 rfl rfl rfl ?_
    by_cases cs : Int32.toInt x1 < 1 ∨ 5 < Int32.toInt x1
    · have K := K.1 cs
      refine zw_tabOut (np := 123) dX7_where_28 cs (by decide) ?_
      refine zw_bipush (v := (-9 : Int32)) dX7_where_123 (by decide) rfl ?_
      exact zw_ireturn (ty := .int) dX7_where_125 rfl rfl (Nat.le_refl 0) (Nat.le_refl 0) ⟨_, rfl, rfl, K⟩
    · have K := K.2
      have e : Int32.toInt x1 = 1 ∨ Int32.toInt x1 = 2 ∨ Int32.toInt x1 = 3 ∨ Int32.toInt x1 = 4 ∨ Int32.toInt x1 = 5 := by omega
      rcases e with e | e | e | e | e
      · have e2 : x1 = (1 : Int32) := zw_eqI e (by decide)
        have K := K.1 e2
        refine zw_tabIn (np := 64) (off := 36) dX7_where_28 (by rw [e]; decide) (by rw [e]; decide) (by rw [e]; rfl) (by decide) ?_
        refine zw_aload_n 2 dX7_where_64 rfl rfl rfl ?_
        refine zw_getR f_X7_54 dX7_where_65 zs_0 rfl rfl ?_
        refine zw_aload_n 2 dX7_where_68 rfl rfl rfl ?_
        refine zw_getR f_X7_10 dX7_where_69 zs_0 rfl rfl ?_
        refine zw_getI f_X7_83 dX7_where_72 zs_1 rfl rfl ?_
        obtain ⟨q4, ct, K⟩ := K
        refine zw_callV (n := 1) (As := [.int (h3.1 1 2)]) (rest := []) ct my_X3_firstBlockNotIn rfl rfl k_X7_208 i_X3_firstBlockNotIn s_X3_firstBlockNotIn zs_48 rfl dX7_where_75 (by decide) (Nat.le_of_ble_eq_true rfl) (Nat.le_refl 0) (Nat.le_refl 0) rfl (fun r s1 h4 hq => ?_)
        obtain ⟨x4, rfl, rfl, hq⟩ := hq
        have K := K x4 h4 hq
        refine zw.st (st' := [.int x4]) rfl ?_
        exact zw_ireturn (ty := .int) dX7_where_78 rfl rfl (Nat.le_refl 0) (Nat.le_refl 0) ⟨_, rfl, rfl, K⟩
      · have e2 : x1 = (2 : Int32) := zw_eqI e (by decide)
        have K := K.2.1 e2
        refine zw_tabIn (np := 79) (off := 51) dX7_where_28 (by rw [e]; decide) (by rw [e]; decide) (by rw [e]; rfl) (by decide) ?_
        refine zw_aload_n 2 dX7_where_79 rfl rfl rfl ?_
        refine zw_getR f_X7_54 dX7_where_80 zs_0 rfl rfl ?_
        refine zw_getI f_X7_183 dX7_where_83 zs_48 rfl rfl ?_
        exact zw_ireturn (ty := .int) dX7_where_86 rfl rfl (Nat.le_refl 0) (Nat.le_refl 0) ⟨_, rfl, rfl, K⟩
      · have e2 : x1 = (3 : Int32) := zw_eqI e (by decide)
        have K := K.2.2.1 e2
        refine zw_tabIn (np := 87) (off := 59) dX7_where_28 (by rw [e]; decide) (by rw [e]; decide) (by rw [e]; rfl) (by decide) ?_
        refine zw_iload_n 0 dX7_where_87 rfl rfl rfl ?_
        refine zw_aload_n 2 dX7_where_88 rfl rfl rfl ?_
        refine zw_getR f_X7_10 dX7_where_89 zs_0 rfl rfl ?_
        refine zw_getI f_X7_101 dX7_where_92 zs_1 rfl rfl ?_
        refine zw_iand dX7_where_95 rfl ?_
        obtain ⟨q5, ct, K⟩ := K
        refine zw_callS (n := 1) (As := [.int ((h1.1 2 j2) &&& (h3.1 1 4))]) (rest := []) ct my_X7_firstPair rfl rfl k_X7_211 t_X7_firstPair dX7_where_96 (by decide) (Nat.le_of_ble_eq_true rfl) (Nat.le_refl 0) (Nat.le_refl 0) rfl (fun r s1 h5 hq => ?_)
        obtain ⟨x5, rfl, rfl, hq⟩ := hq
        have K := K x5 h5 hq
        refine zw.st (st' := [.int x5]) rfl ?_
        exact zw_ireturn (ty := .int) dX7_where_99 rfl rfl (Nat.le_refl 0) (Nat.le_refl 0) ⟨_, rfl, rfl, K⟩
      · have e2 : x1 = (4 : Int32) := zw_eqI e (by decide)
        have K := K.2.2.2.1 e2
        refine zw_tabIn (np := 100) (off := 72) dX7_where_28 (by rw [e]; decide) (by rw [e]; decide) (by rw [e]; rfl) (by decide) ?_
        refine zw_aload_n 2 dX7_where_100 rfl rfl rfl ?_
        refine zw_getR f_X7_10 dX7_where_101 zs_0 rfl rfl ?_
        refine zw_getI f_X7_104 dX7_where_104 zs_1 rfl rfl ?_
        refine zw_iload_n 0 dX7_where_107 rfl rfl rfl ?_
        refine zw_iconst (v := (-1 : Int32)) dX7_where_108 (by decide) rfl ?_
        refine zw_ixor dX7_where_109 rfl ?_
        refine zw_iand dX7_where_110 rfl ?_
        obtain ⟨q6, ct, K⟩ := K
        refine zw_callS (n := 1) (As := [.int ((h3.1 1 5) &&& ((h1.1 2 j2) ^^^ (-1 : Int32)))]) (rest := []) ct my_X7_firstPair rfl rfl k_X7_211 t_X7_firstPair dX7_where_111 (by decide) (Nat.le_of_ble_eq_true rfl) (Nat.le_refl 0) (Nat.le_refl 0) rfl (fun r s1 h6 hq => ?_)
        obtain ⟨x6, rfl, rfl, hq⟩ := hq
        have K := K x6 h6 hq
        refine zw.st (st' := [.int x6]) rfl ?_
        exact zw_ireturn (ty := .int) dX7_where_114 rfl rfl (Nat.le_refl 0) (Nat.le_refl 0) ⟨_, rfl, rfl, K⟩
      · have e2 : x1 = (5 : Int32) := zw_eqI e (by decide)
        have K := K.2.2.2.2 e2
        refine zw_tabIn (np := 115) (off := 87) dX7_where_28 (by rw [e]; decide) (by rw [e]; decide) (by rw [e]; rfl) (by decide) ?_
        refine zw_aload_n 2 dX7_where_115 rfl rfl rfl ?_
        refine zw_getR f_X7_54 dX7_where_116 zs_0 rfl rfl ?_
        obtain ⟨q7, ct, K⟩ := K
        refine zw_callV (n := 0) (As := []) (rest := []) ct my_X3_firstCrossing rfl rfl k_X7_148 i_X3_firstCrossing s_X3_firstCrossing zs_48 rfl dX7_where_119 (by decide) (Nat.le_of_ble_eq_true rfl) (Nat.le_refl 0) (Nat.le_refl 0) rfl (fun r s1 h7 hq => ?_)
        obtain ⟨x7, rfl, rfl, hq⟩ := hq
        have K := K x7 h7 hq
        refine zw.st (st' := [.int x7]) rfl ?_
        exact zw_ireturn (ty := .int) dX7_where_122 rfl rfl (Nat.le_refl 0) (Nat.le_refl 0) ⟨_, rfl, rfl, K⟩
  · have K := K.2 c
    refine zw_iload_n 0 dX7_where_10 rfl rfl rfl ?_
    exact zw_ireturn (ty := .int) dX7_where_11 rfl rfl (Nat.le_refl 0) (Nat.le_refl 0) ⟨_, rfl, rfl, K⟩

set_option maxRecDepth 100000 in
set_option maxHeartbeats 4000000 in
theorem rX7_count_0 {q : Int32 → zw_H → Prop} {h : zw_H} (K : q (h.1 37 5) h) : zwI 0 mX7_count q 0 [(0, .ref 0)] [] h := by
  refine zw_aload_n 0 dX7_count_0 rfl rfl rfl ?_
  refine zw_getR f_X7_40 dX7_count_1 zs_0 rfl rfl ?_
  refine zw_getI f_X7_173 dX7_count_4 zs_37 rfl rfl ?_
  exact zw_ireturn (ty := .int) dX7_count_7 rfl rfl (Nat.le_refl 0) (Nat.le_refl 0) ⟨_, rfl, rfl, K⟩

set_option maxRecDepth 100000 in
set_option maxHeartbeats 4000000 in
theorem rX7_countWith_0 {q : Int32 → zw_H → Prop} {h : zw_H} {v1 : Int32} (K : ((v1 < (1 : Int32) → q (-1 : Int32) h) ∧ (¬ v1 < (1 : Int32) → ((v1 ≤ (6 : Int32) → (∃ j1 : Nat, v1 = nI j1 ∧ j1 < 7 ∧ q (h.1 41 j1) h)) ∧ (¬ v1 ≤ (6 : Int32) → q (-1 : Int32) h))))) : zwI 0 mX7_countWith q 0 [(0, .ref 0), (1, .int v1)] [] h := by
  refine zw_iload_n 1 dX7_countWith_0 rfl rfl rfl ?_
  refine zw_iconst (v := (1 : Int32)) dX7_countWith_1 (by decide) rfl ?_
  refine zw_icmp_lt (tg := 11) dX7_countWith_2 (by decide) rfl (fun c => ?_) (fun c => ?_)
  · have K := K.1 c
    refine zw_iconst (v := (-1 : Int32)) dX7_countWith_11 (by decide) rfl ?_
    refine zw_goto (np := 24) dX7_countWith_12 (by decide) ?_
    exact zw_ireturn (ty := .int) dX7_countWith_24 rfl rfl (Nat.le_refl 0) (Nat.le_refl 0) ⟨_, rfl, rfl, K⟩
  · have K := K.2 c
    refine zw_iload_n 1 dX7_countWith_5 rfl rfl rfl ?_
    refine zw_bipush (v := (6 : Int32)) dX7_countWith_6 (by decide) rfl ?_
    refine zw_icmp_le (tg := 15) dX7_countWith_8 (by decide) rfl (fun c => ?_) (fun c => ?_)
    · have K := K.1 c
      refine zw_aload_n 0 dX7_countWith_15 rfl rfl rfl ?_
      refine zw_getR f_X7_40 dX7_countWith_16 zs_0 rfl rfl ?_
      refine zw_getR f_X7_214 dX7_countWith_19 zs_37 rfl rfl ?_
      refine zw_iload_n 1 dX7_countWith_22 rfl rfl rfl ?_
      obtain ⟨j1, hj1, hn1, K⟩ := K
      refine zw_iald j1 dX7_countWith_23 zs_41 ⟨hj1, hn1⟩ (by decide) rfl ?_
      exact zw_ireturn (ty := .int) dX7_countWith_24 rfl rfl (Nat.le_refl 0) (Nat.le_refl 0) ⟨_, rfl, rfl, K⟩
    · have K := K.2 c
      refine zw_iconst (v := (-1 : Int32)) dX7_countWith_11 (by decide) rfl ?_
      refine zw_goto (np := 24) dX7_countWith_12 (by decide) ?_
      exact zw_ireturn (ty := .int) dX7_countWith_24 rfl rfl (Nat.le_refl 0) (Nat.le_refl 0) ⟨_, rfl, rfl, K⟩

set_option maxRecDepth 100000 in
set_option maxHeartbeats 4000000 in
theorem rX7_below_0 {q : Int32 → zw_H → Prop} {h : zw_H} {v1 v2 : Int32} (K : (∃ q1 : Int32 → zw_H → Prop, zcI 1 mX7_faultOf [.ref 0, .int v1, .int v2, .int (1 : Int32)] h q1 ∧ (∀ (x1 : Int32) (h1 : zw_H), q1 x1 h1 → ((x1 = 0 → (∃ j2 : Nat, v1 = nI j2 ∧ j2 < 8 ∧ (∃ j3 : Nat, v2 = nI j3 ∧ j3 < 8 ∧ (∃ q4 : Int32 → zw_H → Prop, zcI 0 mX7_isBelow [.int (h1.1 2 j2), .int (h1.1 2 j3)] h1 q4 ∧ (∀ (x4 : Int32) (h4 : zw_H), q4 x4 h4 → ((x4 = 0 → q (0 : Int32) h4) ∧ (¬ x4 = 0 → q (1 : Int32) h4))))))) ∧ (¬ x1 = 0 → q x1 h1))))) : zwI 2 mX7_below q 0 [(0, .ref 0), (1, .int v1), (2, .int v2)] [] h := by
  refine zw_aload_n 0 dX7_below_0 rfl rfl rfl ?_
  refine zw_iload_n 1 dX7_below_1 rfl rfl rfl ?_
  refine zw_iload_n 2 dX7_below_2 rfl rfl rfl ?_
  refine zw_iconst (v := (1 : Int32)) dX7_below_3 (by decide) rfl ?_
  obtain ⟨q1, ct, K⟩ := K
  refine zw_callV (n := 3) (As := [.int v1, .int v2, .int (1 : Int32)]) (rest := []) ct my_X7_faultOf rfl rfl k_X7_130 i_X7_faultOf s_X7_faultOf zs_0 rfl dX7_below_4 (by decide) (Nat.le_of_ble_eq_true rfl) (Nat.le_refl 0) (Nat.le_refl 0) rfl (fun r s1 h1 hq => ?_)
  obtain ⟨x1, rfl, rfl, hq⟩ := hq
  have K := K x1 h1 hq
  refine zw.st (st' := [.int x1]) rfl ?_
  refine zw_istore_n dX7_below_7 rfl (by decide) rfl rfl ?_
  refine zw_iload_n 0 dX7_below_8 rfl rfl rfl ?_
  refine zw_if_eq (tg := 14) dX7_below_9 (by decide) rfl (fun c => ?_) (fun c => ?_)
  · have K := K.1 c
    refine zw_aload_n 1 dX7_below_14 rfl rfl rfl ?_
    refine zw_getR f_X7_10 dX7_below_15 zs_0 rfl rfl ?_
    refine zw_getR f_X7_133 dX7_below_18 zs_1 rfl rfl ?_
    refine zw_iload_n 2 dX7_below_21 rfl rfl rfl ?_
    obtain ⟨j2, hj2, hn2, K⟩ := K
    refine zw_iald j2 dX7_below_22 zs_2 ⟨hj2, hn2⟩ (by decide) rfl ?_
    refine zw_aload_n 1 dX7_below_23 rfl rfl rfl ?_
    refine zw_getR f_X7_10 dX7_below_24 zs_0 rfl rfl ?_
    refine zw_getR f_X7_133 dX7_below_27 zs_1 rfl rfl ?_
    refine zw_iload_n 3 dX7_below_30 rfl rfl rfl ?_
    obtain ⟨j3, hj3, hn3, K⟩ := K
    refine zw_iald j3 dX7_below_31 zs_2 ⟨hj3, hn3⟩ (by decide) rfl ?_
    obtain ⟨q4, ct, K⟩ := K
    refine zw_callS (n := 2) (As := [.int (h1.1 2 j2), .int (h1.1 2 j3)]) (rest := []) ct my_X7_isBelow rfl rfl k_X7_217 t_X7_isBelow dX7_below_32 (by decide) (Nat.le_of_ble_eq_true rfl) (Nat.le_refl 0) (Nat.le_refl 0) rfl (fun r s1 h4 hq => ?_)
    obtain ⟨x4, rfl, rfl, hq⟩ := hq
    have K := K x4 h4 hq
    refine zw.st (st' := [.int x4]) rfl ?_
    refine zw_if_eq (tg := 42) dX7_below_35 (by decide) rfl (fun c => ?_) (fun c => ?_)
    · have K := K.1 c
      refine zw_iconst (v := (0 : Int32)) dX7_below_42 (by decide) rfl ?_
      exact zw_ireturn (ty := .int) dX7_below_43 rfl rfl (Nat.le_refl 0) (Nat.le_refl 0) ⟨_, rfl, rfl, K⟩
    · have K := K.2 c
      refine zw_iconst (v := (1 : Int32)) dX7_below_38 (by decide) rfl ?_
      refine zw_goto (np := 43) dX7_below_39 (by decide) ?_
      exact zw_ireturn (ty := .int) dX7_below_43 rfl rfl (Nat.le_refl 0) (Nat.le_refl 0) ⟨_, rfl, rfl, K⟩
  · have K := K.2 c
    refine zw_iload_n 0 dX7_below_12 rfl rfl rfl ?_
    exact zw_ireturn (ty := .int) dX7_below_13 rfl rfl (Nat.le_refl 0) (Nat.le_refl 0) ⟨_, rfl, rfl, K⟩

set_option maxRecDepth 100000 in
set_option maxHeartbeats 4000000 in
theorem rX7_covers_0 {q : Int32 → zw_H → Prop} {h : zw_H} {v1 v2 : Int32} (K : (∃ q1 : Int32 → zw_H → Prop, zcI 2 mX7_faultOfAdmitted [.ref 0, .int v1, .int v1, .int (1 : Int32)] h q1 ∧ (∀ (x1 : Int32) (h1 : zw_H), q1 x1 h1 → ((x1 = 0 → (∃ j2 : Nat, v1 = nI j2 ∧ j2 < 8 ∧ (∃ j3 : Nat, v1 = nI j3 ∧ j3 < 8 ∧ (∃ q4 : zw_H → Prop, zcV 2 mX2_findNearest [.ref 37, .int (h1.1 2 j2), .int v2, .int (h1.1 2 j3)] h1 q4 ∧ (∀ h4 : zw_H, q4 h4 → q (h4.1 37 6) h4))))) ∧ (¬ x1 = 0 → q x1 h1))))) : zwI 3 mX7_covers q 0 [(0, .ref 0), (1, .int v1), (2, .int v2)] [] h := by
  refine zw_aload_n 0 dX7_covers_0 rfl rfl rfl ?_
  refine zw_iload_n 1 dX7_covers_1 rfl rfl rfl ?_
  refine zw_iload_n 1 dX7_covers_2 rfl rfl rfl ?_
  refine zw_iconst (v := (1 : Int32)) dX7_covers_3 (by decide) rfl ?_
  obtain ⟨q1, ct, K⟩ := K
  refine zw_callV (n := 3) (As := [.int v1, .int v1, .int (1 : Int32)]) (rest := []) ct my_X7_faultOfAdmitted rfl rfl k_X7_221 i_X7_faultOfAdmitted s_X7_faultOfAdmitted zs_0 rfl dX7_covers_4 (by decide) (Nat.le_of_ble_eq_true rfl) (Nat.le_refl 0) (Nat.le_refl 0) rfl (fun r s1 h1 hq => ?_)
  obtain ⟨x1, rfl, rfl, hq⟩ := hq
  have K := K x1 h1 hq
  refine zw.st (st' := [.int x1]) rfl ?_
  refine zw_istore_n dX7_covers_7 rfl (by decide) rfl rfl ?_
  refine zw_iload_n 0 dX7_covers_8 rfl rfl rfl ?_
  refine zw_if_eq (tg := 14) dX7_covers_9 (by decide) rfl (fun c => ?_) (fun c => ?_)
  · have K := K.1 c
    refine zw_aload_n 1 dX7_covers_14 rfl rfl rfl ?_
    refine zw_getR f_X7_40 dX7_covers_15 zs_0 rfl rfl ?_
    refine zw_aload_n 1 dX7_covers_18 rfl rfl rfl ?_
    refine zw_getR f_X7_10 dX7_covers_19 zs_0 rfl rfl ?_
    refine zw_getR f_X7_133 dX7_covers_22 zs_1 rfl rfl ?_
    refine zw_iload_n 2 dX7_covers_25 rfl rfl rfl ?_
    obtain ⟨j2, hj2, hn2, K⟩ := K
    refine zw_iald j2 dX7_covers_26 zs_2 ⟨hj2, hn2⟩ (by decide) rfl ?_
    refine zw_iload_n 3 dX7_covers_27 rfl rfl rfl ?_
    refine zw_aload_n 1 dX7_covers_28 rfl rfl rfl ?_
    refine zw_getR f_X7_10 dX7_covers_29 zs_0 rfl rfl ?_
    refine zw_getR f_X7_133 dX7_covers_32 zs_1 rfl rfl ?_
    refine zw_iload_n 2 dX7_covers_35 rfl rfl rfl ?_
    obtain ⟨j3, hj3, hn3, K⟩ := K
    refine zw_iald j3 dX7_covers_36 zs_2 ⟨hj3, hn3⟩ (by decide) rfl ?_
    obtain ⟨q4, ct, K⟩ := K
    refine zw_callV (n := 3) (As := [.int (h1.1 2 j2), .int v2, .int (h1.1 2 j3)]) (rest := []) ct my_X2_findNearest rfl rfl k_X7_224 i_X2_findNearest s_X2_findNearest zs_37 rfl dX7_covers_37 (by decide) (Nat.le_of_ble_eq_true rfl) (Nat.le_refl 0) (Nat.le_refl 0) rfl (fun r s1 h4 hq => ?_)
    obtain ⟨rfl, rfl, hq⟩ := hq
    have K := K h4 hq
    refine zw.st (st' := []) rfl ?_
    refine zw_aload_n 1 dX7_covers_40 rfl rfl rfl ?_
    refine zw_getR f_X7_40 dX7_covers_41 zs_0 rfl rfl ?_
    refine zw_getI f_X7_228 dX7_covers_44 zs_37 rfl rfl ?_
    exact zw_ireturn (ty := .int) dX7_covers_47 rfl rfl (Nat.le_refl 0) (Nat.le_refl 0) ⟨_, rfl, rfl, K⟩
  · have K := K.2 c
    refine zw_iload_n 0 dX7_covers_12 rfl rfl rfl ?_
    exact zw_ireturn (ty := .int) dX7_covers_13 rfl rfl (Nat.le_refl 0) (Nat.le_refl 0) ⟨_, rfl, rfl, K⟩

set_option maxRecDepth 100000 in
set_option maxHeartbeats 4000000 in
theorem rX7_bounds_0 {q : Int32 → zw_H → Prop} {h : zw_H} {v1 v2 v3 : Int32} (K : (∃ q1 : Int32 → zw_H → Prop, zcI 1 mX7_faultOf [.ref 0, .int v1, .int v2, .int (1 : Int32)] h q1 ∧ (∀ (x1 : Int32) (h1 : zw_H), q1 x1 h1 → ((x1 = 0 → (∃ q2 : zw_H → Prop, zcV 3 mX7_findNearestBounds [.ref 0, .int v1, .int v2, .int v3] h1 q2 ∧ (∀ h2 : zw_H, q2 h2 → q (h2.1 37 6) h2))) ∧ (¬ x1 = 0 → q x1 h1))))) : zwI 4 mX7_bounds q 0 [(0, .ref 0), (1, .int v1), (2, .int v2), (3, .int v3)] [] h := by
  refine zw_aload_n 0 dX7_bounds_0 rfl rfl rfl ?_
  refine zw_iload_n 1 dX7_bounds_1 rfl rfl rfl ?_
  refine zw_iload_n 2 dX7_bounds_2 rfl rfl rfl ?_
  refine zw_iconst (v := (1 : Int32)) dX7_bounds_3 (by decide) rfl ?_
  obtain ⟨q1, ct, K⟩ := K
  refine zw_callV (n := 3) (As := [.int v1, .int v2, .int (1 : Int32)]) (rest := []) ct my_X7_faultOf rfl rfl k_X7_130 i_X7_faultOf s_X7_faultOf zs_0 rfl dX7_bounds_4 (by decide) (Nat.le_of_ble_eq_true rfl) (Nat.le_refl 0) (Nat.le_refl 0) rfl (fun r s1 h1 hq => ?_)
  obtain ⟨x1, rfl, rfl, hq⟩ := hq
  have K := K x1 h1 hq
  refine zw.st (st' := [.int x1]) rfl ?_
  refine zw_istore dX7_bounds_7 (by decide) rfl rfl ?_
  refine zw_iload 0 dX7_bounds_9 rfl rfl ?_
  refine zw_if_eq (tg := 17) dX7_bounds_11 (by decide) rfl (fun c => ?_) (fun c => ?_)
  · have K := K.1 c
    refine zw_aload_n 1 dX7_bounds_17 rfl rfl rfl ?_
    refine zw_iload_n 2 dX7_bounds_18 rfl rfl rfl ?_
    refine zw_iload_n 3 dX7_bounds_19 rfl rfl rfl ?_
    refine zw_iload_n 4 dX7_bounds_20 rfl rfl rfl ?_
    obtain ⟨q2, ct, K⟩ := K
    refine zw_callV (n := 3) (As := [.int v1, .int v2, .int v3]) (rest := []) ct my_X7_findNearestBounds rfl rfl k_X7_231 i_X7_findNearestBounds s_X7_findNearestBounds zs_0 rfl dX7_bounds_21 (by decide) (Nat.le_of_ble_eq_true rfl) (Nat.le_refl 0) (Nat.le_refl 0) rfl (fun r s1 h2 hq => ?_)
    obtain ⟨rfl, rfl, hq⟩ := hq
    have K := K h2 hq
    refine zw.st (st' := []) rfl ?_
    refine zw_aload_n 1 dX7_bounds_24 rfl rfl rfl ?_
    refine zw_getR f_X7_40 dX7_bounds_25 zs_0 rfl rfl ?_
    refine zw_getI f_X7_228 dX7_bounds_28 zs_37 rfl rfl ?_
    exact zw_ireturn (ty := .int) dX7_bounds_31 rfl rfl (Nat.le_refl 0) (Nat.le_refl 0) ⟨_, rfl, rfl, K⟩
  · have K := K.2 c
    refine zw_iload 0 dX7_bounds_14 rfl rfl ?_
    exact zw_ireturn (ty := .int) dX7_bounds_16 rfl rfl (Nat.le_refl 0) (Nat.le_refl 0) ⟨_, rfl, rfl, K⟩

set_option maxRecDepth 100000 in
set_option maxHeartbeats 4000000 in
theorem rX7_bound_0 {q : Int32 → zw_H → Prop} {h : zw_H} {v1 v2 v3 v4 : Int32} (K : (∃ q1 : Int32 → zw_H → Prop, zcI 0 mX7_isRegister [.int v4] h q1 ∧ (∀ (x1 : Int32) (h1 : zw_H), q1 x1 h1 → (∃ q2 : Int32 → zw_H → Prop, zcI 1 mX7_faultOf [.ref 0, .int v1, .int v2, .int x1] h1 q2 ∧ (∀ (x2 : Int32) (h2 : zw_H), q2 x2 h2 → ((x2 = 0 → (∃ q3 : zw_H → Prop, zcV 3 mX7_findNearestBounds [.ref 0, .int v1, .int v2, .int v3] h2 q3 ∧ (∀ h3 : zw_H, q3 h3 → (((h3.1 37 6) = (1 : Int32) → (∃ q4 : Int32 → zw_H → Prop, zcI 0 mX2_find [.ref 37, .int (h3.1 42 0)] h3 q4 ∧ (∀ (x4 : Int32) (h4 : zw_H), q4 x4 h4 → (∃ q5 : Int32 → zw_H → Prop, zcI 2 mX7_stepTo [.ref 0, .int v4, .int x4] h4 q5 ∧ (∀ (x5 : Int32) (h5 : zw_H), q5 x5 h5 → q x5 h5))))) ∧ (¬ (h3.1 37 6) = (1 : Int32) → q (-3 : Int32) h3))))) ∧ (¬ x2 = 0 → q x2 h2))))))) : zwI 4 mX7_bound q 0 [(0, .ref 0), (1, .int v1), (2, .int v2), (3, .int v3), (4, .int v4)] [] h := by
  refine zw_aload_n 0 dX7_bound_0 rfl rfl rfl ?_
  refine zw_iload_n 1 dX7_bound_1 rfl rfl rfl ?_
  refine zw_iload_n 2 dX7_bound_2 rfl rfl rfl ?_
  refine zw_iload 4 dX7_bound_3 rfl rfl ?_
  obtain ⟨q1, ct, K⟩ := K
  refine zw_callS (n := 1) (As := [.int v4]) (rest := [.int v2, .int v1, .ref 0]) ct my_X7_isRegister rfl rfl k_X7_117 t_X7_isRegister dX7_bound_5 (by decide) (Nat.le_of_ble_eq_true rfl) (Nat.le_refl 0) (Nat.le_refl 0) rfl (fun r s1 h1 hq => ?_)
  obtain ⟨x1, rfl, rfl, hq⟩ := hq
  have K := K x1 h1 hq
  refine zw.st (st' := [.int x1, .int v2, .int v1, .ref 0]) rfl ?_
  obtain ⟨q2, ct, K⟩ := K
  refine zw_callV (n := 3) (As := [.int v1, .int v2, .int x1]) (rest := []) ct my_X7_faultOf rfl rfl k_X7_130 i_X7_faultOf s_X7_faultOf zs_0 rfl dX7_bound_8 (by decide) (Nat.le_of_ble_eq_true rfl) (Nat.le_refl 0) (Nat.le_refl 0) rfl (fun r s1 h2 hq => ?_)
  obtain ⟨x2, rfl, rfl, hq⟩ := hq
  have K := K x2 h2 hq
  refine zw.st (st' := [.int x2]) rfl ?_
  refine zw_istore dX7_bound_11 (by decide) rfl rfl ?_
  refine zw_iload 0 dX7_bound_13 rfl rfl ?_
  refine zw_if_eq (tg := 21) dX7_bound_15 (by decide) rfl (fun c => ?_) (fun c => ?_)
  · have K := K.1 c
    refine zw_aload_n 1 dX7_bound_21 rfl rfl rfl ?_
    refine zw_iload_n 2 dX7_bound_22 rfl rfl rfl ?_
    refine zw_iload_n 3 dX7_bound_23 rfl rfl rfl ?_
    refine zw_iload_n 4 dX7_bound_24 rfl rfl rfl ?_
    obtain ⟨q3, ct, K⟩ := K
    refine zw_callV (n := 3) (As := [.int v1, .int v2, .int v3]) (rest := []) ct my_X7_findNearestBounds rfl rfl k_X7_231 i_X7_findNearestBounds s_X7_findNearestBounds zs_0 rfl dX7_bound_25 (by decide) (Nat.le_of_ble_eq_true rfl) (Nat.le_refl 0) (Nat.le_refl 0) rfl (fun r s1 h3 hq => ?_)
    obtain ⟨rfl, rfl, hq⟩ := hq
    have K := K h3 hq
    refine zw.st (st' := []) rfl ?_
    refine zw_aload_n 1 dX7_bound_28 rfl rfl rfl ?_
    refine zw_getR f_X7_40 dX7_bound_29 zs_0 rfl rfl ?_
    refine zw_getI f_X7_228 dX7_bound_32 zs_37 rfl rfl ?_
    refine zw_iconst (v := (1 : Int32)) dX7_bound_35 (by decide) rfl ?_
    refine zw_icmp_eq (tg := 42) dX7_bound_36 (by decide) rfl (fun c => ?_) (fun c => ?_)
    · have K := K.1 c
      refine zw_aload_n 1 dX7_bound_42 rfl rfl rfl ?_
      refine zw_iload 5 dX7_bound_43 rfl rfl ?_
      refine zw_aload_n 1 dX7_bound_45 rfl rfl rfl ?_
      refine zw_getR f_X7_40 dX7_bound_46 zs_0 rfl rfl ?_
      refine zw_aload_n 1 dX7_bound_49 rfl rfl rfl ?_
      refine zw_getR f_X7_40 dX7_bound_50 zs_0 rfl rfl ?_
      refine zw_getR f_X7_235 dX7_bound_53 zs_37 rfl rfl ?_
      refine zw_iconst (v := (0 : Int32)) dX7_bound_56 (by decide) rfl ?_
      refine zw_iald 0 dX7_bound_57 zs_42 ⟨by decide, by decide⟩ (by decide) rfl ?_
      obtain ⟨q4, ct, K⟩ := K
      refine zw_callV (n := 1) (As := [.int (h3.1 42 0)]) (rest := [.int v4, .ref 0]) ct my_X2_find rfl rfl k_X7_195 i_X2_find s_X2_find zs_37 rfl dX7_bound_58 (by decide) (Nat.le_of_ble_eq_true rfl) (Nat.le_refl 0) (Nat.le_refl 0) rfl (fun r s1 h4 hq => ?_)
      obtain ⟨x4, rfl, rfl, hq⟩ := hq
      have K := K x4 h4 hq
      refine zw.st (st' := [.int x4, .int v4, .ref 0]) rfl ?_
      obtain ⟨q5, ct, K⟩ := K
      refine zw_callV (n := 2) (As := [.int v4, .int x4]) (rest := []) ct my_X7_stepTo rfl rfl k_X7_167 i_X7_stepTo s_X7_stepTo zs_0 rfl dX7_bound_61 (by decide) (Nat.le_of_ble_eq_true rfl) (Nat.le_refl 0) (Nat.le_refl 0) rfl (fun r s1 h5 hq => ?_)
      obtain ⟨x5, rfl, rfl, hq⟩ := hq
      have K := K x5 h5 hq
      refine zw.st (st' := [.int x5]) rfl ?_
      exact zw_ireturn (ty := .int) dX7_bound_64 rfl rfl (Nat.le_refl 0) (Nat.le_refl 0) ⟨_, rfl, rfl, K⟩
    · have K := K.2 c
      refine zw_bipush (v := (-3 : Int32)) dX7_bound_39 (by decide) rfl ?_
      exact zw_ireturn (ty := .int) dX7_bound_41 rfl rfl (Nat.le_refl 0) (Nat.le_refl 0) ⟨_, rfl, rfl, K⟩
  · have K := K.2 c
    refine zw_iload 0 dX7_bound_18 rfl rfl ?_
    exact zw_ireturn (ty := .int) dX7_bound_20 rfl rfl (Nat.le_refl 0) (Nat.le_refl 0) ⟨_, rfl, rfl, K⟩

set_option maxRecDepth 100000 in
set_option maxHeartbeats 4000000 in
theorem rX7_interval_0 {q : Int32 → zw_H → Prop} {h : zw_H} {v1 v2 : Int32} (K : (∃ q1 : Int32 → zw_H → Prop, zcI 1 mX7_faultOf [.ref 0, .int v1, .int v2, .int (1 : Int32)] h q1 ∧ (∀ (x1 : Int32) (h1 : zw_H), q1 x1 h1 → ((x1 = 0 → (∃ q2 : zw_H → Prop, zcV 2 mX7_selectSpan [.ref 0, .int v1, .int v2] h1 q2 ∧ (∀ h2 : zw_H, q2 h2 → q (h2.1 43 4) h2))) ∧ (¬ x1 = 0 → q x1 h1))))) : zwI 3 mX7_interval q 0 [(0, .ref 0), (1, .int v1), (2, .int v2)] [] h := by
  refine zw_aload_n 0 dX7_interval_0 rfl rfl rfl ?_
  refine zw_iload_n 1 dX7_interval_1 rfl rfl rfl ?_
  refine zw_iload_n 2 dX7_interval_2 rfl rfl rfl ?_
  refine zw_iconst (v := (1 : Int32)) dX7_interval_3 (by decide) rfl ?_
  obtain ⟨q1, ct, K⟩ := K
  refine zw_callV (n := 3) (As := [.int v1, .int v2, .int (1 : Int32)]) (rest := []) ct my_X7_faultOf rfl rfl k_X7_130 i_X7_faultOf s_X7_faultOf zs_0 rfl dX7_interval_4 (by decide) (Nat.le_of_ble_eq_true rfl) (Nat.le_refl 0) (Nat.le_refl 0) rfl (fun r s1 h1 hq => ?_)
  obtain ⟨x1, rfl, rfl, hq⟩ := hq
  have K := K x1 h1 hq
  refine zw.st (st' := [.int x1]) rfl ?_
  refine zw_istore_n dX7_interval_7 rfl (by decide) rfl rfl ?_
  refine zw_iload_n 0 dX7_interval_8 rfl rfl rfl ?_
  refine zw_if_eq (tg := 14) dX7_interval_9 (by decide) rfl (fun c => ?_) (fun c => ?_)
  · have K := K.1 c
    refine zw_aload_n 1 dX7_interval_14 rfl rfl rfl ?_
    refine zw_iload_n 2 dX7_interval_15 rfl rfl rfl ?_
    refine zw_iload_n 3 dX7_interval_16 rfl rfl rfl ?_
    obtain ⟨q2, ct, K⟩ := K
    refine zw_callV (n := 2) (As := [.int v1, .int v2]) (rest := []) ct my_X7_selectSpan rfl rfl k_X7_238 i_X7_selectSpan s_X7_selectSpan zs_0 rfl dX7_interval_17 (by decide) (Nat.le_of_ble_eq_true rfl) (Nat.le_refl 0) (Nat.le_refl 0) rfl (fun r s1 h2 hq => ?_)
    obtain ⟨rfl, rfl, hq⟩ := hq
    have K := K h2 hq
    refine zw.st (st' := []) rfl ?_
    refine zw_aload_n 1 dX7_interval_20 rfl rfl rfl ?_
    refine zw_getR f_X7_47 dX7_interval_21 zs_0 rfl rfl ?_
    refine zw_getI f_X7_242 dX7_interval_24 zs_43 rfl rfl ?_
    exact zw_ireturn (ty := .int) dX7_interval_27 rfl rfl (Nat.le_refl 0) (Nat.le_refl 0) ⟨_, rfl, rfl, K⟩
  · have K := K.2 c
    refine zw_iload_n 0 dX7_interval_12 rfl rfl rfl ?_
    exact zw_ireturn (ty := .int) dX7_interval_13 rfl rfl (Nat.le_refl 0) (Nat.le_refl 0) ⟨_, rfl, rfl, K⟩

set_option maxRecDepth 100000 in
set_option maxHeartbeats 4000000 in
theorem rX7_moebius_0 {q : Int64 → zw_H → Prop} {h : zw_H} {v1 v2 : Int32} (K : (∃ q1 : Int32 → zw_H → Prop, zcI 2 mX7_faultOfAdmitted [.ref 0, .int v1, .int v2, .int (1 : Int32)] h q1 ∧ (∀ (x1 : Int32) (h1 : zw_H), q1 x1 h1 → ((x1 = 0 → (∃ q2 : zw_H → Prop, zcV 2 mX7_selectSpan [.ref 0, .int v1, .int v2] h1 q2 ∧ (∀ h2 : zw_H, q2 h2 → (∃ q3 : zw_H → Prop, zcV 2 mX4_putMoebius [.ref 43] h2 q3 ∧ (∀ h3 : zw_H, q3 h3 → (∃ q4 : Int64 → zw_H → Prop, zcL 0 mX4_lastValue [.ref 43] h3 q4 ∧ (∀ (x4 : Int64) (h4 : zw_H), q4 x4 h4 → q x4 h4))))))) ∧ (¬ x1 = 0 → q ((-1000000000 : Int64) + (Int32.toInt64 x1)) h1))))) : zwL 3 mX7_moebius q 0 [(0, .ref 0), (1, .int v1), (2, .int v2)] [] h := by
  refine zw_aload_n 0 dX7_moebius_0 rfl rfl rfl ?_
  refine zw_iload_n 1 dX7_moebius_1 rfl rfl rfl ?_
  refine zw_iload_n 2 dX7_moebius_2 rfl rfl rfl ?_
  refine zw_iconst (v := (1 : Int32)) dX7_moebius_3 (by decide) rfl ?_
  obtain ⟨q1, ct, K⟩ := K
  refine zw_callV (n := 3) (As := [.int v1, .int v2, .int (1 : Int32)]) (rest := []) ct my_X7_faultOfAdmitted rfl rfl k_X7_221 i_X7_faultOfAdmitted s_X7_faultOfAdmitted zs_0 rfl dX7_moebius_4 (by decide) (Nat.le_of_ble_eq_true rfl) (Nat.le_refl 0) (Nat.le_refl 0) rfl (fun r s1 h1 hq => ?_)
  obtain ⟨x1, rfl, rfl, hq⟩ := hq
  have K := K x1 h1 hq
  refine zw.st (st' := [.int x1]) rfl ?_
  refine zw_istore_n dX7_moebius_7 rfl (by decide) rfl rfl ?_
  refine zw_iload_n 0 dX7_moebius_8 rfl rfl rfl ?_
  refine zw_if_eq (tg := 19) dX7_moebius_9 (by decide) rfl (fun c => ?_) (fun c => ?_)
  · have K := K.1 c
    refine zw_aload_n 1 dX7_moebius_19 rfl rfl rfl ?_
    refine zw_iload_n 2 dX7_moebius_20 rfl rfl rfl ?_
    refine zw_iload_n 3 dX7_moebius_21 rfl rfl rfl ?_
    obtain ⟨q2, ct, K⟩ := K
    refine zw_callV (n := 2) (As := [.int v1, .int v2]) (rest := []) ct my_X7_selectSpan rfl rfl k_X7_238 i_X7_selectSpan s_X7_selectSpan zs_0 rfl dX7_moebius_22 (by decide) (Nat.le_of_ble_eq_true rfl) (Nat.le_refl 0) (Nat.le_refl 0) rfl (fun r s1 h2 hq => ?_)
    obtain ⟨rfl, rfl, hq⟩ := hq
    have K := K h2 hq
    refine zw.st (st' := []) rfl ?_
    refine zw_aload_n 1 dX7_moebius_25 rfl rfl rfl ?_
    refine zw_getR f_X7_47 dX7_moebius_26 zs_0 rfl rfl ?_
    obtain ⟨q3, ct, K⟩ := K
    refine zw_callV (n := 0) (As := []) (rest := []) ct my_X4_putMoebius rfl rfl k_X7_245 i_X4_putMoebius s_X4_putMoebius zs_43 rfl dX7_moebius_29 (by decide) (Nat.le_of_ble_eq_true rfl) (Nat.le_refl 0) (Nat.le_refl 0) rfl (fun r s1 h3 hq => ?_)
    obtain ⟨rfl, rfl, hq⟩ := hq
    have K := K h3 hq
    refine zw.st (st' := []) rfl ?_
    refine zw_aload_n 1 dX7_moebius_32 rfl rfl rfl ?_
    refine zw_getR f_X7_47 dX7_moebius_33 zs_0 rfl rfl ?_
    obtain ⟨q4, ct, K⟩ := K
    refine zw_callV (n := 0) (As := []) (rest := []) ct my_X4_lastValue rfl rfl k_X7_248 i_X4_lastValue s_X4_lastValue zs_43 rfl dX7_moebius_36 (by decide) (Nat.le_of_ble_eq_true rfl) (Nat.le_refl 0) (Nat.le_refl 0) rfl (fun r s1 h4 hq => ?_)
    obtain ⟨x4, rfl, rfl, hq⟩ := hq
    have K := K x4 h4 hq
    refine zw.st (st' := [.long x4]) rfl ?_
    exact zw_lreturn dX7_moebius_39 rfl (Nat.le_refl 0) (Nat.le_refl 0) ⟨_, rfl, rfl, K⟩
  · have K := K.2 c
    refine zw_ldc2 n_X7_243 dX7_moebius_12 rfl ?_
    refine zw_iload_n 0 dX7_moebius_15 rfl rfl rfl ?_
    refine zw_i2l dX7_moebius_16 rfl ?_
    refine zw_ladd dX7_moebius_17 rfl ?_
    exact zw_lreturn dX7_moebius_18 rfl (Nat.le_refl 0) (Nat.le_refl 0) ⟨_, rfl, rfl, K⟩

set_option maxRecDepth 100000 in
set_option maxHeartbeats 4000000 in
theorem rX7_chains_0 {q : Int64 → zw_H → Prop} {h : zw_H} {v1 v2 v3 : Int32} (K : ((v3 < 0 → (∃ q1 : Int32 → zw_H → Prop, zcI 2 mX7_faultOfAdmitted [.ref 0, .int v1, .int v2, .int (0 : Int32)] h q1 ∧ (∀ (x1 : Int32) (h1 : zw_H), q1 x1 h1 → ((x1 = 0 → (∃ q2 : zw_H → Prop, zcV 2 mX7_selectSpan [.ref 0, .int v1, .int v2] h1 q2 ∧ (∀ h2 : zw_H, q2 h2 → (∃ q3 : zw_H → Prop, zcV 2 mX4_putChains [.ref 43, .int v3] h2 q3 ∧ (∀ h3 : zw_H, q3 h3 → (∃ q4 : Int64 → zw_H → Prop, zcL 0 mX4_lastValue [.ref 43] h3 q4 ∧ (∀ (x4 : Int64) (h4 : zw_H), q4 x4 h4 → q x4 h4))))))) ∧ (¬ x1 = 0 → q (Int32.toInt64 x1) h1))))) ∧ (¬ v3 < 0 → (((5 : Int32) < v3 → (∃ q5 : Int32 → zw_H → Prop, zcI 2 mX7_faultOfAdmitted [.ref 0, .int v1, .int v2, .int (0 : Int32)] h q5 ∧ (∀ (x5 : Int32) (h5 : zw_H), q5 x5 h5 → ((x5 = 0 → (∃ q6 : zw_H → Prop, zcV 2 mX7_selectSpan [.ref 0, .int v1, .int v2] h5 q6 ∧ (∀ h6 : zw_H, q6 h6 → (∃ q7 : zw_H → Prop, zcV 2 mX4_putChains [.ref 43, .int v3] h6 q7 ∧ (∀ h7 : zw_H, q7 h7 → (∃ q8 : Int64 → zw_H → Prop, zcL 0 mX4_lastValue [.ref 43] h7 q8 ∧ (∀ (x8 : Int64) (h8 : zw_H), q8 x8 h8 → q x8 h8))))))) ∧ (¬ x5 = 0 → q (Int32.toInt64 x5) h5))))) ∧ (¬ (5 : Int32) < v3 → (∃ q9 : Int32 → zw_H → Prop, zcI 2 mX7_faultOfAdmitted [.ref 0, .int v1, .int v2, .int (1 : Int32)] h q9 ∧ (∀ (x9 : Int32) (h9 : zw_H), q9 x9 h9 → ((x9 = 0 → (∃ q10 : zw_H → Prop, zcV 2 mX7_selectSpan [.ref 0, .int v1, .int v2] h9 q10 ∧ (∀ h10 : zw_H, q10 h10 → (∃ q11 : zw_H → Prop, zcV 2 mX4_putChains [.ref 43, .int v3] h10 q11 ∧ (∀ h11 : zw_H, q11 h11 → (∃ q12 : Int64 → zw_H → Prop, zcL 0 mX4_lastValue [.ref 43] h11 q12 ∧ (∀ (x12 : Int64) (h12 : zw_H), q12 x12 h12 → q x12 h12))))))) ∧ (¬ x9 = 0 → q (Int32.toInt64 x9) h9))))))))) : zwL 3 mX7_chains q 0 [(0, .ref 0), (1, .int v1), (2, .int v2), (3, .int v3)] [] h := by
  refine zw_aload_n 0 dX7_chains_0 rfl rfl rfl ?_
  refine zw_iload_n 1 dX7_chains_1 rfl rfl rfl ?_
  refine zw_iload_n 2 dX7_chains_2 rfl rfl rfl ?_
  refine zw_iload_n 3 dX7_chains_3 rfl rfl rfl ?_
  refine zw_if_lt (tg := 16) dX7_chains_4 (by decide) rfl (fun c => ?_) (fun c => ?_)
  · have K := K.1 c
    refine zw_iconst (v := (0 : Int32)) dX7_chains_16 (by decide) rfl ?_
    obtain ⟨q1, ct, K⟩ := K
    refine zw_callV (n := 3) (As := [.int v1, .int v2, .int (0 : Int32)]) (rest := []) ct my_X7_faultOfAdmitted rfl rfl k_X7_221 i_X7_faultOfAdmitted s_X7_faultOfAdmitted zs_0 rfl dX7_chains_17 (by decide) (Nat.le_of_ble_eq_true rfl) (Nat.le_refl 0) (Nat.le_refl 0) rfl (fun r s1 h1 hq => ?_)
    obtain ⟨x1, rfl, rfl, hq⟩ := hq
    have K := K x1 h1 hq
    refine zw.st (st' := [.int x1]) rfl ?_
    refine zw_istore dX7_chains_20 (by decide) rfl rfl ?_
    refine zw_iload 0 dX7_chains_22 rfl rfl ?_
    refine zw_if_eq (tg := 31) dX7_chains_24 (by decide) rfl (fun c => ?_) (fun c => ?_)
    · have K := K.1 c
      refine zw_aload_n 1 dX7_chains_31 rfl rfl rfl ?_
      refine zw_iload_n 2 dX7_chains_32 rfl rfl rfl ?_
      refine zw_iload_n 3 dX7_chains_33 rfl rfl rfl ?_
      obtain ⟨q2, ct, K⟩ := K
      refine zw_callV (n := 2) (As := [.int v1, .int v2]) (rest := []) ct my_X7_selectSpan rfl rfl k_X7_238 i_X7_selectSpan s_X7_selectSpan zs_0 rfl dX7_chains_34 (by decide) (Nat.le_of_ble_eq_true rfl) (Nat.le_refl 0) (Nat.le_refl 0) rfl (fun r s1 h2 hq => ?_)
      obtain ⟨rfl, rfl, hq⟩ := hq
      have K := K h2 hq
      refine zw.st (st' := []) rfl ?_
      refine zw_aload_n 1 dX7_chains_37 rfl rfl rfl ?_
      refine zw_getR f_X7_47 dX7_chains_38 zs_0 rfl rfl ?_
      refine zw_iload_n 4 dX7_chains_41 rfl rfl rfl ?_
      obtain ⟨q3, ct, K⟩ := K
      refine zw_callV (n := 1) (As := [.int v3]) (rest := []) ct my_X4_putChains rfl rfl k_X7_252 i_X4_putChains s_X4_putChains zs_43 rfl dX7_chains_42 (by decide) (Nat.le_of_ble_eq_true rfl) (Nat.le_refl 0) (Nat.le_refl 0) rfl (fun r s1 h3 hq => ?_)
      obtain ⟨rfl, rfl, hq⟩ := hq
      have K := K h3 hq
      refine zw.st (st' := []) rfl ?_
      refine zw_aload_n 1 dX7_chains_45 rfl rfl rfl ?_
      refine zw_getR f_X7_47 dX7_chains_46 zs_0 rfl rfl ?_
      obtain ⟨q4, ct, K⟩ := K
      refine zw_callV (n := 0) (As := []) (rest := []) ct my_X4_lastValue rfl rfl k_X7_248 i_X4_lastValue s_X4_lastValue zs_43 rfl dX7_chains_49 (by decide) (Nat.le_of_ble_eq_true rfl) (Nat.le_refl 0) (Nat.le_refl 0) rfl (fun r s1 h4 hq => ?_)
      obtain ⟨x4, rfl, rfl, hq⟩ := hq
      have K := K x4 h4 hq
      refine zw.st (st' := [.long x4]) rfl ?_
      exact zw_lreturn dX7_chains_52 rfl (Nat.le_refl 0) (Nat.le_refl 0) ⟨_, rfl, rfl, K⟩
    · have K := K.2 c
      refine zw_iload 0 dX7_chains_27 rfl rfl ?_
      refine zw_i2l dX7_chains_29 rfl ?_
      exact zw_lreturn dX7_chains_30 rfl (Nat.le_refl 0) (Nat.le_refl 0) ⟨_, rfl, rfl, K⟩
  · have K := K.2 c
    refine zw_iload_n 3 dX7_chains_7 rfl rfl rfl ?_
    refine zw_iconst (v := (5 : Int32)) dX7_chains_8 (by decide) rfl ?_
    refine zw_icmp_gt (tg := 16) dX7_chains_9 (by decide) rfl (fun c => ?_) (fun c => ?_)
    · have K := K.1 c
      refine zw_iconst (v := (0 : Int32)) dX7_chains_16 (by decide) rfl ?_
      obtain ⟨q5, ct, K⟩ := K
      refine zw_callV (n := 3) (As := [.int v1, .int v2, .int (0 : Int32)]) (rest := []) ct my_X7_faultOfAdmitted rfl rfl k_X7_221 i_X7_faultOfAdmitted s_X7_faultOfAdmitted zs_0 rfl dX7_chains_17 (by decide) (Nat.le_of_ble_eq_true rfl) (Nat.le_refl 0) (Nat.le_refl 0) rfl (fun r s1 h5 hq => ?_)
      obtain ⟨x5, rfl, rfl, hq⟩ := hq
      have K := K x5 h5 hq
      refine zw.st (st' := [.int x5]) rfl ?_
      refine zw_istore dX7_chains_20 (by decide) rfl rfl ?_
      refine zw_iload 0 dX7_chains_22 rfl rfl ?_
      refine zw_if_eq (tg := 31) dX7_chains_24 (by decide) rfl (fun c => ?_) (fun c => ?_)
      · have K := K.1 c
        refine zw_aload_n 1 dX7_chains_31 rfl rfl rfl ?_
        refine zw_iload_n 2 dX7_chains_32 rfl rfl rfl ?_
        refine zw_iload_n 3 dX7_chains_33 rfl rfl rfl ?_
        obtain ⟨q6, ct, K⟩ := K
        refine zw_callV (n := 2) (As := [.int v1, .int v2]) (rest := []) ct my_X7_selectSpan rfl rfl k_X7_238 i_X7_selectSpan s_X7_selectSpan zs_0 rfl dX7_chains_34 (by decide) (Nat.le_of_ble_eq_true rfl) (Nat.le_refl 0) (Nat.le_refl 0) rfl (fun r s1 h6 hq => ?_)
        obtain ⟨rfl, rfl, hq⟩ := hq
        have K := K h6 hq
        refine zw.st (st' := []) rfl ?_
        refine zw_aload_n 1 dX7_chains_37 rfl rfl rfl ?_
        refine zw_getR f_X7_47 dX7_chains_38 zs_0 rfl rfl ?_
        refine zw_iload_n 4 dX7_chains_41 rfl rfl rfl ?_
        obtain ⟨q7, ct, K⟩ := K
        refine zw_callV (n := 1) (As := [.int v3]) (rest := []) ct my_X4_putChains rfl rfl k_X7_252 i_X4_putChains s_X4_putChains zs_43 rfl dX7_chains_42 (by decide) (Nat.le_of_ble_eq_true rfl) (Nat.le_refl 0) (Nat.le_refl 0) rfl (fun r s1 h7 hq => ?_)
        obtain ⟨rfl, rfl, hq⟩ := hq
        have K := K h7 hq
        refine zw.st (st' := []) rfl ?_
        refine zw_aload_n 1 dX7_chains_45 rfl rfl rfl ?_
        refine zw_getR f_X7_47 dX7_chains_46 zs_0 rfl rfl ?_
        obtain ⟨q8, ct, K⟩ := K
        refine zw_callV (n := 0) (As := []) (rest := []) ct my_X4_lastValue rfl rfl k_X7_248 i_X4_lastValue s_X4_lastValue zs_43 rfl dX7_chains_49 (by decide) (Nat.le_of_ble_eq_true rfl) (Nat.le_refl 0) (Nat.le_refl 0) rfl (fun r s1 h8 hq => ?_)
        obtain ⟨x8, rfl, rfl, hq⟩ := hq
        have K := K x8 h8 hq
        refine zw.st (st' := [.long x8]) rfl ?_
        exact zw_lreturn dX7_chains_52 rfl (Nat.le_refl 0) (Nat.le_refl 0) ⟨_, rfl, rfl, K⟩
      · have K := K.2 c
        refine zw_iload 0 dX7_chains_27 rfl rfl ?_
        refine zw_i2l dX7_chains_29 rfl ?_
        exact zw_lreturn dX7_chains_30 rfl (Nat.le_refl 0) (Nat.le_refl 0) ⟨_, rfl, rfl, K⟩
    · have K := K.2 c
      refine zw_iconst (v := (1 : Int32)) dX7_chains_12 (by decide) rfl ?_
      refine zw_goto (np := 17) dX7_chains_13 (by decide) ?_
      obtain ⟨q9, ct, K⟩ := K
      refine zw_callV (n := 3) (As := [.int v1, .int v2, .int (1 : Int32)]) (rest := []) ct my_X7_faultOfAdmitted rfl rfl k_X7_221 i_X7_faultOfAdmitted s_X7_faultOfAdmitted zs_0 rfl dX7_chains_17 (by decide) (Nat.le_of_ble_eq_true rfl) (Nat.le_refl 0) (Nat.le_refl 0) rfl (fun r s1 h9 hq => ?_)
      obtain ⟨x9, rfl, rfl, hq⟩ := hq
      have K := K x9 h9 hq
      refine zw.st (st' := [.int x9]) rfl ?_
      refine zw_istore dX7_chains_20 (by decide) rfl rfl ?_
      refine zw_iload 0 dX7_chains_22 rfl rfl ?_
      refine zw_if_eq (tg := 31) dX7_chains_24 (by decide) rfl (fun c => ?_) (fun c => ?_)
      · have K := K.1 c
        refine zw_aload_n 1 dX7_chains_31 rfl rfl rfl ?_
        refine zw_iload_n 2 dX7_chains_32 rfl rfl rfl ?_
        refine zw_iload_n 3 dX7_chains_33 rfl rfl rfl ?_
        obtain ⟨q10, ct, K⟩ := K
        refine zw_callV (n := 2) (As := [.int v1, .int v2]) (rest := []) ct my_X7_selectSpan rfl rfl k_X7_238 i_X7_selectSpan s_X7_selectSpan zs_0 rfl dX7_chains_34 (by decide) (Nat.le_of_ble_eq_true rfl) (Nat.le_refl 0) (Nat.le_refl 0) rfl (fun r s1 h10 hq => ?_)
        obtain ⟨rfl, rfl, hq⟩ := hq
        have K := K h10 hq
        refine zw.st (st' := []) rfl ?_
        refine zw_aload_n 1 dX7_chains_37 rfl rfl rfl ?_
        refine zw_getR f_X7_47 dX7_chains_38 zs_0 rfl rfl ?_
        refine zw_iload_n 4 dX7_chains_41 rfl rfl rfl ?_
        obtain ⟨q11, ct, K⟩ := K
        refine zw_callV (n := 1) (As := [.int v3]) (rest := []) ct my_X4_putChains rfl rfl k_X7_252 i_X4_putChains s_X4_putChains zs_43 rfl dX7_chains_42 (by decide) (Nat.le_of_ble_eq_true rfl) (Nat.le_refl 0) (Nat.le_refl 0) rfl (fun r s1 h11 hq => ?_)
        obtain ⟨rfl, rfl, hq⟩ := hq
        have K := K h11 hq
        refine zw.st (st' := []) rfl ?_
        refine zw_aload_n 1 dX7_chains_45 rfl rfl rfl ?_
        refine zw_getR f_X7_47 dX7_chains_46 zs_0 rfl rfl ?_
        obtain ⟨q12, ct, K⟩ := K
        refine zw_callV (n := 0) (As := []) (rest := []) ct my_X4_lastValue rfl rfl k_X7_248 i_X4_lastValue s_X4_lastValue zs_43 rfl dX7_chains_49 (by decide) (Nat.le_of_ble_eq_true rfl) (Nat.le_refl 0) (Nat.le_refl 0) rfl (fun r s1 h12 hq => ?_)
        obtain ⟨x12, rfl, rfl, hq⟩ := hq
        have K := K x12 h12 hq
        refine zw.st (st' := [.long x12]) rfl ?_
        exact zw_lreturn dX7_chains_52 rfl (Nat.le_refl 0) (Nat.le_refl 0) ⟨_, rfl, rfl, K⟩
      · have K := K.2 c
        refine zw_iload 0 dX7_chains_27 rfl rfl ?_
        refine zw_i2l dX7_chains_29 rfl ?_
        exact zw_lreturn dX7_chains_30 rfl (Nat.le_refl 0) (Nat.le_refl 0) ⟨_, rfl, rfl, K⟩

set_option maxRecDepth 100000 in
set_option maxHeartbeats 4000000 in
theorem rX7_maximalChains_0 {q : Int64 → zw_H → Prop} {h : zw_H} {v1 v2 : Int32} (K : (∃ q1 : Int32 → zw_H → Prop, zcI 2 mX7_faultOfAdmitted [.ref 0, .int v1, .int v2, .int (1 : Int32)] h q1 ∧ (∀ (x1 : Int32) (h1 : zw_H), q1 x1 h1 → ((x1 = 0 → (∃ q2 : zw_H → Prop, zcV 2 mX7_selectSpan [.ref 0, .int v1, .int v2] h1 q2 ∧ (∀ h2 : zw_H, q2 h2 → (∃ q3 : zw_H → Prop, zcV 3 mX4_putMaximalChains [.ref 43] h2 q3 ∧ (∀ h3 : zw_H, q3 h3 → (∃ q4 : Int64 → zw_H → Prop, zcL 0 mX4_lastValue [.ref 43] h3 q4 ∧ (∀ (x4 : Int64) (h4 : zw_H), q4 x4 h4 → q x4 h4))))))) ∧ (¬ x1 = 0 → q (Int32.toInt64 x1) h1))))) : zwL 4 mX7_maximalChains q 0 [(0, .ref 0), (1, .int v1), (2, .int v2)] [] h := by
  refine zw_aload_n 0 dX7_maximalChains_0 rfl rfl rfl ?_
  refine zw_iload_n 1 dX7_maximalChains_1 rfl rfl rfl ?_
  refine zw_iload_n 2 dX7_maximalChains_2 rfl rfl rfl ?_
  refine zw_iconst (v := (1 : Int32)) dX7_maximalChains_3 (by decide) rfl ?_
  obtain ⟨q1, ct, K⟩ := K
  refine zw_callV (n := 3) (As := [.int v1, .int v2, .int (1 : Int32)]) (rest := []) ct my_X7_faultOfAdmitted rfl rfl k_X7_221 i_X7_faultOfAdmitted s_X7_faultOfAdmitted zs_0 rfl dX7_maximalChains_4 (by decide) (Nat.le_of_ble_eq_true rfl) (Nat.le_refl 0) (Nat.le_refl 0) rfl (fun r s1 h1 hq => ?_)
  obtain ⟨x1, rfl, rfl, hq⟩ := hq
  have K := K x1 h1 hq
  refine zw.st (st' := [.int x1]) rfl ?_
  refine zw_istore_n dX7_maximalChains_7 rfl (by decide) rfl rfl ?_
  refine zw_iload_n 0 dX7_maximalChains_8 rfl rfl rfl ?_
  refine zw_if_eq (tg := 15) dX7_maximalChains_9 (by decide) rfl (fun c => ?_) (fun c => ?_)
  · have K := K.1 c
    refine zw_aload_n 1 dX7_maximalChains_15 rfl rfl rfl ?_
    refine zw_iload_n 2 dX7_maximalChains_16 rfl rfl rfl ?_
    refine zw_iload_n 3 dX7_maximalChains_17 rfl rfl rfl ?_
    obtain ⟨q2, ct, K⟩ := K
    refine zw_callV (n := 2) (As := [.int v1, .int v2]) (rest := []) ct my_X7_selectSpan rfl rfl k_X7_238 i_X7_selectSpan s_X7_selectSpan zs_0 rfl dX7_maximalChains_18 (by decide) (Nat.le_of_ble_eq_true rfl) (Nat.le_refl 0) (Nat.le_refl 0) rfl (fun r s1 h2 hq => ?_)
    obtain ⟨rfl, rfl, hq⟩ := hq
    have K := K h2 hq
    refine zw.st (st' := []) rfl ?_
    refine zw_aload_n 1 dX7_maximalChains_21 rfl rfl rfl ?_
    refine zw_getR f_X7_47 dX7_maximalChains_22 zs_0 rfl rfl ?_
    obtain ⟨q3, ct, K⟩ := K
    refine zw_callV (n := 0) (As := []) (rest := []) ct my_X4_putMaximalChains rfl rfl k_X7_255 i_X4_putMaximalChains s_X4_putMaximalChains zs_43 rfl dX7_maximalChains_25 (by decide) (Nat.le_of_ble_eq_true rfl) (Nat.le_refl 0) (Nat.le_refl 0) rfl (fun r s1 h3 hq => ?_)
    obtain ⟨rfl, rfl, hq⟩ := hq
    have K := K h3 hq
    refine zw.st (st' := []) rfl ?_
    refine zw_aload_n 1 dX7_maximalChains_28 rfl rfl rfl ?_
    refine zw_getR f_X7_47 dX7_maximalChains_29 zs_0 rfl rfl ?_
    obtain ⟨q4, ct, K⟩ := K
    refine zw_callV (n := 0) (As := []) (rest := []) ct my_X4_lastValue rfl rfl k_X7_248 i_X4_lastValue s_X4_lastValue zs_43 rfl dX7_maximalChains_32 (by decide) (Nat.le_of_ble_eq_true rfl) (Nat.le_refl 0) (Nat.le_refl 0) rfl (fun r s1 h4 hq => ?_)
    obtain ⟨x4, rfl, rfl, hq⟩ := hq
    have K := K x4 h4 hq
    refine zw.st (st' := [.long x4]) rfl ?_
    exact zw_lreturn dX7_maximalChains_35 rfl (Nat.le_refl 0) (Nat.le_refl 0) ⟨_, rfl, rfl, K⟩
  · have K := K.2 c
    refine zw_iload_n 0 dX7_maximalChains_12 rfl rfl rfl ?_
    refine zw_i2l dX7_maximalChains_13 rfl ?_
    exact zw_lreturn dX7_maximalChains_14 rfl (Nat.le_refl 0) (Nat.le_refl 0) ⟨_, rfl, rfl, K⟩

set_option maxRecDepth 100000 in
set_option maxHeartbeats 4000000 in
theorem rX7_height_0 {q : Int32 → zw_H → Prop} {h : zw_H} {v1 v2 : Int32} (K : (∃ q1 : Int32 → zw_H → Prop, zcI 2 mX7_faultOfAdmitted [.ref 0, .int v1, .int v2, .int (1 : Int32)] h q1 ∧ (∀ (x1 : Int32) (h1 : zw_H), q1 x1 h1 → ((x1 = 0 → (∃ q2 : zw_H → Prop, zcV 2 mX7_selectSpan [.ref 0, .int v1, .int v2] h1 q2 ∧ (∀ h2 : zw_H, q2 h2 → ((¬ (h2.1 43 4) = 0 → (∃ q3 : zw_H → Prop, zcV 1 mX4_putHeights [.ref 43] h2 q3 ∧ (∀ h3 : zw_H, q3 h3 → (∃ q4 : Int64 → zw_H → Prop, zcL 0 mX4_lastValue [.ref 43] h3 q4 ∧ (∀ (x4 : Int64) (h4 : zw_H), q4 x4 h4 → q (Int64.toInt32 x4) h4))))) ∧ ((h2.1 43 4) = 0 → q (-9 : Int32) h2))))) ∧ (¬ x1 = 0 → q x1 h1))))) : zwI 3 mX7_height q 0 [(0, .ref 0), (1, .int v1), (2, .int v2)] [] h := by
  refine zw_aload_n 0 dX7_height_0 rfl rfl rfl ?_
  refine zw_iload_n 1 dX7_height_1 rfl rfl rfl ?_
  refine zw_iload_n 2 dX7_height_2 rfl rfl rfl ?_
  refine zw_iconst (v := (1 : Int32)) dX7_height_3 (by decide) rfl ?_
  obtain ⟨q1, ct, K⟩ := K
  refine zw_callV (n := 3) (As := [.int v1, .int v2, .int (1 : Int32)]) (rest := []) ct my_X7_faultOfAdmitted rfl rfl k_X7_221 i_X7_faultOfAdmitted s_X7_faultOfAdmitted zs_0 rfl dX7_height_4 (by decide) (Nat.le_of_ble_eq_true rfl) (Nat.le_refl 0) (Nat.le_refl 0) rfl (fun r s1 h1 hq => ?_)
  obtain ⟨x1, rfl, rfl, hq⟩ := hq
  have K := K x1 h1 hq
  refine zw.st (st' := [.int x1]) rfl ?_
  refine zw_istore_n dX7_height_7 rfl (by decide) rfl rfl ?_
  refine zw_iload_n 0 dX7_height_8 rfl rfl rfl ?_
  refine zw_if_eq (tg := 14) dX7_height_9 (by decide) rfl (fun c => ?_) (fun c => ?_)
  · have K := K.1 c
    refine zw_aload_n 1 dX7_height_14 rfl rfl rfl ?_
    refine zw_iload_n 2 dX7_height_15 rfl rfl rfl ?_
    refine zw_iload_n 3 dX7_height_16 rfl rfl rfl ?_
    obtain ⟨q2, ct, K⟩ := K
    refine zw_callV (n := 2) (As := [.int v1, .int v2]) (rest := []) ct my_X7_selectSpan rfl rfl k_X7_238 i_X7_selectSpan s_X7_selectSpan zs_0 rfl dX7_height_17 (by decide) (Nat.le_of_ble_eq_true rfl) (Nat.le_refl 0) (Nat.le_refl 0) rfl (fun r s1 h2 hq => ?_)
    obtain ⟨rfl, rfl, hq⟩ := hq
    have K := K h2 hq
    refine zw.st (st' := []) rfl ?_
    refine zw_aload_n 1 dX7_height_20 rfl rfl rfl ?_
    refine zw_getR f_X7_47 dX7_height_21 zs_0 rfl rfl ?_
    refine zw_getI f_X7_242 dX7_height_24 zs_43 rfl rfl ?_
    refine zw_if_ne (tg := 33) dX7_height_27 (by decide) rfl (fun c => ?_) (fun c => ?_)
    · have K := K.1 c
      refine zw_aload_n 1 dX7_height_33 rfl rfl rfl ?_
      refine zw_getR f_X7_47 dX7_height_34 zs_0 rfl rfl ?_
      obtain ⟨q3, ct, K⟩ := K
      refine zw_callV (n := 0) (As := []) (rest := []) ct my_X4_putHeights rfl rfl k_X7_258 i_X4_putHeights s_X4_putHeights zs_43 rfl dX7_height_37 (by decide) (Nat.le_of_ble_eq_true rfl) (Nat.le_refl 0) (Nat.le_refl 0) rfl (fun r s1 h3 hq => ?_)
      obtain ⟨rfl, rfl, hq⟩ := hq
      have K := K h3 hq
      refine zw.st (st' := []) rfl ?_
      refine zw_aload_n 1 dX7_height_40 rfl rfl rfl ?_
      refine zw_getR f_X7_47 dX7_height_41 zs_0 rfl rfl ?_
      obtain ⟨q4, ct, K⟩ := K
      refine zw_callV (n := 0) (As := []) (rest := []) ct my_X4_lastValue rfl rfl k_X7_248 i_X4_lastValue s_X4_lastValue zs_43 rfl dX7_height_44 (by decide) (Nat.le_of_ble_eq_true rfl) (Nat.le_refl 0) (Nat.le_refl 0) rfl (fun r s1 h4 hq => ?_)
      obtain ⟨x4, rfl, rfl, hq⟩ := hq
      have K := K x4 h4 hq
      refine zw.st (st' := [.long x4]) rfl ?_
      refine zw_l2i dX7_height_47 rfl ?_
      exact zw_ireturn (ty := .int) dX7_height_48 rfl rfl (Nat.le_refl 0) (Nat.le_refl 0) ⟨_, rfl, rfl, K⟩
    · have K := K.2 c
      refine zw_bipush (v := (-9 : Int32)) dX7_height_30 (by decide) rfl ?_
      exact zw_ireturn (ty := .int) dX7_height_32 rfl rfl (Nat.le_refl 0) (Nat.le_refl 0) ⟨_, rfl, rfl, K⟩
  · have K := K.2 c
    refine zw_iload_n 0 dX7_height_12 rfl rfl rfl ?_
    exact zw_ireturn (ty := .int) dX7_height_13 rfl rfl (Nat.le_refl 0) (Nat.le_refl 0) ⟨_, rfl, rfl, K⟩

set_option maxRecDepth 100000 in
set_option maxHeartbeats 4000000 in
theorem rX7_rankSum_0 {q : Int64 → zw_H → Prop} {h : zw_H} {v1 v2 v3 : Int32} (K : (∃ q1 : Int32 → zw_H → Prop, zcI 0 mX7_isBase [.int v3] h q1 ∧ (∀ (x1 : Int32) (h1 : zw_H), q1 x1 h1 → (∃ q2 : Int32 → zw_H → Prop, zcI 1 mX7_faultOf [.ref 0, .int v1, .int v2, .int x1] h1 q2 ∧ (∀ (x2 : Int32) (h2 : zw_H), q2 x2 h2 → ((x2 = 0 → (∃ q3 : zw_H → Prop, zcV 2 mX7_selectSpan [.ref 0, .int v1, .int v2] h2 q3 ∧ (∀ h3 : zw_H, q3 h3 → (∃ j4 : Nat, v1 = nI j4 ∧ j4 < 8 ∧ (∃ q5 : Int32 → zw_H → Prop, zcI 3 mX7_blockCountOf [.ref 0, .int (h3.1 2 j4)] h3 q5 ∧ (∀ (x5 : Int32) (h5 : zw_H), q5 x5 h5 → zwL 4 mX7_rankSum q 52 [(0, .ref 0), (3, .int v3), (5, .int x5), (6, .long (0 : Int64)), (8, .int (0 : Int32))] [] h5)))))) ∧ (¬ x2 = 0 → q ((-1000000000 : Int64) + (Int32.toInt64 x2)) h2))))))) : zwL 4 mX7_rankSum q 0 [(0, .ref 0), (1, .int v1), (2, .int v2), (3, .int v3)] [] h := by
  refine zw_aload_n 0 dX7_rankSum_0 rfl rfl rfl ?_
  refine zw_iload_n 1 dX7_rankSum_1 rfl rfl rfl ?_
  refine zw_iload_n 2 dX7_rankSum_2 rfl rfl rfl ?_
  refine zw_iload_n 3 dX7_rankSum_3 rfl rfl rfl ?_
  obtain ⟨q1, ct, K⟩ := K
  refine zw_callS (n := 1) (As := [.int v3]) (rest := [.int v2, .int v1, .ref 0]) ct my_X7_isBase rfl rfl k_X7_261 t_X7_isBase dX7_rankSum_4 (by decide) (Nat.le_of_ble_eq_true rfl) (Nat.le_refl 0) (Nat.le_refl 0) rfl (fun r s1 h1 hq => ?_)
  obtain ⟨x1, rfl, rfl, hq⟩ := hq
  have K := K x1 h1 hq
  refine zw.st (st' := [.int x1, .int v2, .int v1, .ref 0]) rfl ?_
  obtain ⟨q2, ct, K⟩ := K
  refine zw_callV (n := 3) (As := [.int v1, .int v2, .int x1]) (rest := []) ct my_X7_faultOf rfl rfl k_X7_130 i_X7_faultOf s_X7_faultOf zs_0 rfl dX7_rankSum_7 (by decide) (Nat.le_of_ble_eq_true rfl) (Nat.le_refl 0) (Nat.le_refl 0) rfl (fun r s1 h2 hq => ?_)
  obtain ⟨x2, rfl, rfl, hq⟩ := hq
  have K := K x2 h2 hq
  refine zw.st (st' := [.int x2]) rfl ?_
  refine zw_istore dX7_rankSum_10 (by decide) rfl rfl ?_
  refine zw_iload 0 dX7_rankSum_12 rfl rfl ?_
  refine zw_if_eq (tg := 25) dX7_rankSum_14 (by decide) rfl (fun c => ?_) (fun c => ?_)
  · have K := K.1 c
    refine zw_aload_n 1 dX7_rankSum_25 rfl rfl rfl ?_
    refine zw_iload_n 2 dX7_rankSum_26 rfl rfl rfl ?_
    refine zw_iload_n 3 dX7_rankSum_27 rfl rfl rfl ?_
    obtain ⟨q3, ct, K⟩ := K
    refine zw_callV (n := 2) (As := [.int v1, .int v2]) (rest := []) ct my_X7_selectSpan rfl rfl k_X7_238 i_X7_selectSpan s_X7_selectSpan zs_0 rfl dX7_rankSum_28 (by decide) (Nat.le_of_ble_eq_true rfl) (Nat.le_refl 0) (Nat.le_refl 0) rfl (fun r s1 h3 hq => ?_)
    obtain ⟨rfl, rfl, hq⟩ := hq
    have K := K h3 hq
    refine zw.st (st' := []) rfl ?_
    refine zw_aload_n 1 dX7_rankSum_31 rfl rfl rfl ?_
    refine zw_aload_n 1 dX7_rankSum_32 rfl rfl rfl ?_
    refine zw_getR f_X7_10 dX7_rankSum_33 zs_0 rfl rfl ?_
    refine zw_getR f_X7_133 dX7_rankSum_36 zs_1 rfl rfl ?_
    refine zw_iload_n 2 dX7_rankSum_39 rfl rfl rfl ?_
    obtain ⟨j4, hj4, hn4, K⟩ := K
    refine zw_iald j4 dX7_rankSum_40 zs_2 ⟨hj4, hn4⟩ (by decide) rfl ?_
    obtain ⟨q5, ct, K⟩ := K
    refine zw_callV (n := 1) (As := [.int (h3.1 2 j4)]) (rest := []) ct my_X7_blockCountOf rfl rfl k_X7_177 i_X7_blockCountOf s_X7_blockCountOf zs_0 rfl dX7_rankSum_41 (by decide) (Nat.le_of_ble_eq_true rfl) (Nat.le_refl 0) (Nat.le_refl 0) rfl (fun r s1 h5 hq => ?_)
    obtain ⟨x5, rfl, rfl, hq⟩ := hq
    have K := K x5 h5 hq
    refine zw.st (st' := [.int x5]) rfl ?_
    refine zw_istore dX7_rankSum_44 (by decide) rfl rfl ?_
    refine zw_lconst (v := (0 : Int64)) dX7_rankSum_46 (by decide) rfl ?_
    refine zw_lstore dX7_rankSum_47 (by decide) rfl rfl ?_
    refine zw_iconst (v := (0 : Int32)) dX7_rankSum_49 (by decide) rfl ?_
    refine zw_istore dX7_rankSum_50 (by decide) rfl rfl ?_
    exact zw.sub [4, 7, 2, 1, 0] rfl K
  · have K := K.2 c
    refine zw_ldc2 n_X7_243 dX7_rankSum_17 rfl ?_
    refine zw_iload 0 dX7_rankSum_20 rfl rfl ?_
    refine zw_i2l dX7_rankSum_22 rfl ?_
    refine zw_ladd dX7_rankSum_23 rfl ?_
    exact zw_lreturn dX7_rankSum_24 rfl (Nat.le_refl 0) (Nat.le_refl 0) ⟨_, rfl, rfl, K⟩

set_option maxRecDepth 100000 in
set_option maxHeartbeats 4000000 in
theorem rX7_rankSum_52 {q : Int64 → zw_H → Prop} {h : zw_H} {v3 v5 v8 : Int32} {w6 : Int64} (K : (((h.1 43 4) ≤ v8 → q w6 h) ∧ (¬ (h.1 43 4) ≤ v8 → (∃ j1 : Nat, v8 = nI j1 ∧ j1 < 203 ∧ (∃ q2 : Int64 → zw_H → Prop, zcL 0 mX7_power [.int v3, .int (v5 - (h.1 45 j1))] h q2 ∧ (∀ (x2 : Int64) (h2 : zw_H), q2 x2 h2 → zwL 4 mX7_rankSum q 52 [(0, .ref 0), (3, .int v3), (5, .int v5), (6, .long (w6 + x2)), (8, .int (v8 + (1 : Int32)))] [] h2)))))) : zwL 4 mX7_rankSum q 52 [(0, .ref 0), (3, .int v3), (5, .int v5), (6, .long w6), (8, .int v8)] [] h := by
  refine zw_iload 4 dX7_rankSum_52 rfl rfl ?_
  refine zw_aload_n 0 dX7_rankSum_54 rfl rfl rfl ?_
  refine zw_getR f_X7_47 dX7_rankSum_55 zs_0 rfl rfl ?_
  refine zw_getI f_X7_242 dX7_rankSum_58 zs_43 rfl rfl ?_
  refine zw_icmp_ge (tg := 92) dX7_rankSum_61 (by decide) rfl (fun c => ?_) (fun c => ?_)
  · have K := K.1 c
    refine zw_lload 3 dX7_rankSum_92 rfl rfl ?_
    exact zw_lreturn dX7_rankSum_94 rfl (Nat.le_refl 0) (Nat.le_refl 0) ⟨_, rfl, rfl, K⟩
  · have K := K.2 c
    refine zw_lload 3 dX7_rankSum_64 rfl rfl ?_
    refine zw_iload_n 1 dX7_rankSum_66 rfl rfl rfl ?_
    refine zw_iload 2 dX7_rankSum_67 rfl rfl ?_
    refine zw_aload_n 0 dX7_rankSum_69 rfl rfl rfl ?_
    refine zw_getR f_X7_47 dX7_rankSum_70 zs_0 rfl rfl ?_
    refine zw_getR f_X7_264 dX7_rankSum_73 zs_43 rfl rfl ?_
    refine zw_iload 4 dX7_rankSum_76 rfl rfl ?_
    obtain ⟨j1, hj1, hn1, K⟩ := K
    refine zw_iald j1 dX7_rankSum_78 zs_45 ⟨hj1, hn1⟩ (by decide) rfl ?_
    refine zw_isub dX7_rankSum_79 rfl ?_
    obtain ⟨q2, ct, K⟩ := K
    refine zw_callS (n := 2) (As := [.int v3, .int (v5 - (h.1 45 j1))]) (rest := [.long w6]) ct my_X7_power rfl rfl k_X7_267 t_X7_power dX7_rankSum_80 (by decide) (Nat.le_of_ble_eq_true rfl) (Nat.le_refl 0) (Nat.le_refl 0) rfl (fun r s1 h2 hq => ?_)
    obtain ⟨x2, rfl, rfl, hq⟩ := hq
    have K := K x2 h2 hq
    refine zw.st (st' := [.long x2, .long w6]) rfl ?_
    refine zw_ladd dX7_rankSum_83 rfl ?_
    refine zw_lstore dX7_rankSum_84 (by decide) rfl rfl ?_
    refine zw_iinc (v := (v8 + (1 : Int32))) 4 dX7_rankSum_86 rfl rfl (by decide) rfl rfl ?_
    refine zw_goto (np := 52) dX7_rankSum_89 (by decide) ?_
    exact zw.sub [2, 3, 4, 1, 0] rfl K

set_option maxRecDepth 100000 in
set_option maxHeartbeats 4000000 in
theorem rX7_characteristic_0 {q : Int64 → zw_H → Prop} {h : zw_H} {v1 v2 v3 : Int32} (K : (∃ q1 : Int32 → zw_H → Prop, zcI 0 mX7_isBase [.int v3] h q1 ∧ (∀ (x1 : Int32) (h1 : zw_H), q1 x1 h1 → (∃ q2 : Int32 → zw_H → Prop, zcI 1 mX7_faultOf [.ref 0, .int v1, .int v2, .int x1] h1 q2 ∧ (∀ (x2 : Int32) (h2 : zw_H), q2 x2 h2 → ((¬ x2 = 0 → ((x2 = 0 → (∃ q3 : zw_H → Prop, zcV 2 mX7_selectSpan [.ref 0, .int v1, .int v2] h2 q3 ∧ (∀ h3 : zw_H, q3 h3 → (∃ q4 : zw_H → Prop, zcV 2 mX4_putMoebius [.ref 43] h3 q4 ∧ (∀ h4 : zw_H, q4 h4 → (∃ j5 : Nat, v2 = nI j5 ∧ j5 < 8 ∧ (∃ q6 : Int32 → zw_H → Prop, zcI 3 mX7_blockCountOf [.ref 0, .int (h4.1 2 j5)] h4 q6 ∧ (∀ (x6 : Int32) (h6 : zw_H), q6 x6 h6 → zwL 4 mX7_characteristic q 89 [(0, .ref 0), (3, .int v3), (5, .int x6), (6, .long (0 : Int64)), (8, .int (0 : Int32))] [] h6)))))))) ∧ (¬ x2 = 0 → q ((-1000000000 : Int64) + (Int32.toInt64 x2)) h2))) ∧ (x2 = 0 → (∃ j7 : Nat, v1 = nI j7 ∧ j7 < 8 ∧ (∃ q8 : Int32 → zw_H → Prop, zcI 0 mX2_find [.ref 37, .int (h2.1 2 j7)] h2 q8 ∧ (∀ (x8 : Int32) (h8 : zw_H), q8 x8 h8 → ((¬ x8 = (-9 : Int32) → ((x2 = 0 → (∃ q9 : zw_H → Prop, zcV 2 mX7_selectSpan [.ref 0, .int v1, .int v2] h8 q9 ∧ (∀ h9 : zw_H, q9 h9 → (∃ q10 : zw_H → Prop, zcV 2 mX4_putMoebius [.ref 43] h9 q10 ∧ (∀ h10 : zw_H, q10 h10 → (∃ j11 : Nat, v2 = nI j11 ∧ j11 < 8 ∧ (∃ q12 : Int32 → zw_H → Prop, zcI 3 mX7_blockCountOf [.ref 0, .int (h10.1 2 j11)] h10 q12 ∧ (∀ (x12 : Int32) (h12 : zw_H), q12 x12 h12 → zwL 4 mX7_characteristic q 89 [(0, .ref 0), (3, .int v3), (5, .int x12), (6, .long (0 : Int64)), (8, .int (0 : Int32))] [] h12)))))))) ∧ (¬ x2 = 0 → q ((-1000000000 : Int64) + (Int32.toInt64 x2)) h8))) ∧ (x8 = (-9 : Int32) → (((-3 : Int32) = 0 → (∃ q13 : zw_H → Prop, zcV 2 mX7_selectSpan [.ref 0, .int v1, .int v2] h8 q13 ∧ (∀ h13 : zw_H, q13 h13 → (∃ q14 : zw_H → Prop, zcV 2 mX4_putMoebius [.ref 43] h13 q14 ∧ (∀ h14 : zw_H, q14 h14 → (∃ j15 : Nat, v2 = nI j15 ∧ j15 < 8 ∧ (∃ q16 : Int32 → zw_H → Prop, zcI 3 mX7_blockCountOf [.ref 0, .int (h14.1 2 j15)] h14 q16 ∧ (∀ (x16 : Int32) (h16 : zw_H), q16 x16 h16 → zwL 4 mX7_characteristic q 89 [(0, .ref 0), (3, .int v3), (5, .int x16), (6, .long (0 : Int64)), (8, .int (0 : Int32))] [] h16)))))))) ∧ (¬ (-3 : Int32) = 0 → q ((-1000000000 : Int64) + (Int32.toInt64 (-3 : Int32))) h8)))))))))))))) : zwL 4 mX7_characteristic q 0 [(0, .ref 0), (1, .int v1), (2, .int v2), (3, .int v3)] [] h := by
  refine zw_aload_n 0 dX7_characteristic_0 rfl rfl rfl ?_
  refine zw_iload_n 1 dX7_characteristic_1 rfl rfl rfl ?_
  refine zw_iload_n 2 dX7_characteristic_2 rfl rfl rfl ?_
  refine zw_iload_n 3 dX7_characteristic_3 rfl rfl rfl ?_
  obtain ⟨q1, ct, K⟩ := K
  refine zw_callS (n := 1) (As := [.int v3]) (rest := [.int v2, .int v1, .ref 0]) ct my_X7_isBase rfl rfl k_X7_261 t_X7_isBase dX7_characteristic_4 (by decide) (Nat.le_of_ble_eq_true rfl) (Nat.le_refl 0) (Nat.le_refl 0) rfl (fun r s1 h1 hq => ?_)
  obtain ⟨x1, rfl, rfl, hq⟩ := hq
  have K := K x1 h1 hq
  refine zw.st (st' := [.int x1, .int v2, .int v1, .ref 0]) rfl ?_
  obtain ⟨q2, ct, K⟩ := K
  refine zw_callV (n := 3) (As := [.int v1, .int v2, .int x1]) (rest := []) ct my_X7_faultOf rfl rfl k_X7_130 i_X7_faultOf s_X7_faultOf zs_0 rfl dX7_characteristic_7 (by decide) (Nat.le_of_ble_eq_true rfl) (Nat.le_refl 0) (Nat.le_refl 0) rfl (fun r s1 h2 hq => ?_)
  obtain ⟨x2, rfl, rfl, hq⟩ := hq
  have K := K x2 h2 hq
  refine zw.st (st' := [.int x2]) rfl ?_
  refine zw_istore dX7_characteristic_10 (by decide) rfl rfl ?_
  refine zw_iload 0 dX7_characteristic_12 rfl rfl ?_
  refine zw_if_ne (tg := 42) dX7_characteristic_14 (by decide) rfl (fun c => ?_) (fun c => ?_)
  · have K := K.1 c
    refine zw_iload 0 dX7_characteristic_42 rfl rfl ?_
    refine zw_if_eq (tg := 55) dX7_characteristic_44 (by decide) rfl (fun c => ?_) (fun c => ?_)
    · have K := K.1 c
      refine zw_aload_n 1 dX7_characteristic_55 rfl rfl rfl ?_
      refine zw_iload_n 2 dX7_characteristic_56 rfl rfl rfl ?_
      refine zw_iload_n 3 dX7_characteristic_57 rfl rfl rfl ?_
      obtain ⟨q3, ct, K⟩ := K
      refine zw_callV (n := 2) (As := [.int v1, .int v2]) (rest := []) ct my_X7_selectSpan rfl rfl k_X7_238 i_X7_selectSpan s_X7_selectSpan zs_0 rfl dX7_characteristic_58 (by decide) (Nat.le_of_ble_eq_true rfl) (Nat.le_refl 0) (Nat.le_refl 0) rfl (fun r s1 h3 hq => ?_)
      obtain ⟨rfl, rfl, hq⟩ := hq
      have K := K h3 hq
      refine zw.st (st' := []) rfl ?_
      refine zw_aload_n 1 dX7_characteristic_61 rfl rfl rfl ?_
      refine zw_getR f_X7_47 dX7_characteristic_62 zs_0 rfl rfl ?_
      obtain ⟨q4, ct, K⟩ := K
      refine zw_callV (n := 0) (As := []) (rest := []) ct my_X4_putMoebius rfl rfl k_X7_245 i_X4_putMoebius s_X4_putMoebius zs_43 rfl dX7_characteristic_65 (by decide) (Nat.le_of_ble_eq_true rfl) (Nat.le_refl 0) (Nat.le_refl 0) rfl (fun r s1 h4 hq => ?_)
      obtain ⟨rfl, rfl, hq⟩ := hq
      have K := K h4 hq
      refine zw.st (st' := []) rfl ?_
      refine zw_aload_n 1 dX7_characteristic_68 rfl rfl rfl ?_
      refine zw_aload_n 1 dX7_characteristic_69 rfl rfl rfl ?_
      refine zw_getR f_X7_10 dX7_characteristic_70 zs_0 rfl rfl ?_
      refine zw_getR f_X7_133 dX7_characteristic_73 zs_1 rfl rfl ?_
      refine zw_iload_n 3 dX7_characteristic_76 rfl rfl rfl ?_
      obtain ⟨j5, hj5, hn5, K⟩ := K
      refine zw_iald j5 dX7_characteristic_77 zs_2 ⟨hj5, hn5⟩ (by decide) rfl ?_
      obtain ⟨q6, ct, K⟩ := K
      refine zw_callV (n := 1) (As := [.int (h4.1 2 j5)]) (rest := []) ct my_X7_blockCountOf rfl rfl k_X7_177 i_X7_blockCountOf s_X7_blockCountOf zs_0 rfl dX7_characteristic_78 (by decide) (Nat.le_of_ble_eq_true rfl) (Nat.le_refl 0) (Nat.le_refl 0) rfl (fun r s1 h6 hq => ?_)
      obtain ⟨x6, rfl, rfl, hq⟩ := hq
      have K := K x6 h6 hq
      refine zw.st (st' := [.int x6]) rfl ?_
      refine zw_istore dX7_characteristic_81 (by decide) rfl rfl ?_
      refine zw_lconst (v := (0 : Int64)) dX7_characteristic_83 (by decide) rfl ?_
      refine zw_lstore dX7_characteristic_84 (by decide) rfl rfl ?_
      refine zw_iconst (v := (0 : Int32)) dX7_characteristic_86 (by decide) rfl ?_
      refine zw_istore dX7_characteristic_87 (by decide) rfl rfl ?_
      exact zw.sub [4, 7, 2, 1, 0] rfl K
    · have K := K.2 c
      refine zw_ldc2 n_X7_243 dX7_characteristic_47 rfl ?_
      refine zw_iload 0 dX7_characteristic_50 rfl rfl ?_
      refine zw_i2l dX7_characteristic_52 rfl ?_
      refine zw_ladd dX7_characteristic_53 rfl ?_
      exact zw_lreturn dX7_characteristic_54 rfl (Nat.le_refl 0) (Nat.le_refl 0) ⟨_, rfl, rfl, K⟩
  · have K := K.2 c
    refine zw_aload_n 1 dX7_characteristic_17 rfl rfl rfl ?_
    refine zw_getR f_X7_40 dX7_characteristic_18 zs_0 rfl rfl ?_
    refine zw_aload_n 1 dX7_characteristic_21 rfl rfl rfl ?_
    refine zw_getR f_X7_10 dX7_characteristic_22 zs_0 rfl rfl ?_
    refine zw_getR f_X7_133 dX7_characteristic_25 zs_1 rfl rfl ?_
    refine zw_iload_n 2 dX7_characteristic_28 rfl rfl rfl ?_
    obtain ⟨j7, hj7, hn7, K⟩ := K
    refine zw_iald j7 dX7_characteristic_29 zs_2 ⟨hj7, hn7⟩ (by decide) rfl ?_
    obtain ⟨q8, ct, K⟩ := K
    refine zw_callV (n := 1) (As := [.int (h2.1 2 j7)]) (rest := []) ct my_X2_find rfl rfl k_X7_195 i_X2_find s_X2_find zs_37 rfl dX7_characteristic_30 (by decide) (Nat.le_of_ble_eq_true rfl) (Nat.le_refl 0) (Nat.le_refl 0) rfl (fun r s1 h8 hq => ?_)
    obtain ⟨x8, rfl, rfl, hq⟩ := hq
    have K := K x8 h8 hq
    refine zw.st (st' := [.int x8]) rfl ?_
    refine zw_bipush (v := (-9 : Int32)) dX7_characteristic_33 (by decide) rfl ?_
    refine zw_icmp_ne (tg := 42) dX7_characteristic_35 (by decide) rfl (fun c => ?_) (fun c => ?_)
    · have K := K.1 c
      refine zw_iload 0 dX7_characteristic_42 rfl rfl ?_
      refine zw_if_eq (tg := 55) dX7_characteristic_44 (by decide) rfl (fun c => ?_) (fun c => ?_)
      · have K := K.1 c
        refine zw_aload_n 1 dX7_characteristic_55 rfl rfl rfl ?_
        refine zw_iload_n 2 dX7_characteristic_56 rfl rfl rfl ?_
        refine zw_iload_n 3 dX7_characteristic_57 rfl rfl rfl ?_
        obtain ⟨q9, ct, K⟩ := K
        refine zw_callV (n := 2) (As := [.int v1, .int v2]) (rest := []) ct my_X7_selectSpan rfl rfl k_X7_238 i_X7_selectSpan s_X7_selectSpan zs_0 rfl dX7_characteristic_58 (by decide) (Nat.le_of_ble_eq_true rfl) (Nat.le_refl 0) (Nat.le_refl 0) rfl (fun r s1 h9 hq => ?_)
        obtain ⟨rfl, rfl, hq⟩ := hq
        have K := K h9 hq
        refine zw.st (st' := []) rfl ?_
        refine zw_aload_n 1 dX7_characteristic_61 rfl rfl rfl ?_
        refine zw_getR f_X7_47 dX7_characteristic_62 zs_0 rfl rfl ?_
        obtain ⟨q10, ct, K⟩ := K
        refine zw_callV (n := 0) (As := []) (rest := []) ct my_X4_putMoebius rfl rfl k_X7_245 i_X4_putMoebius s_X4_putMoebius zs_43 rfl dX7_characteristic_65 (by decide) (Nat.le_of_ble_eq_true rfl) (Nat.le_refl 0) (Nat.le_refl 0) rfl (fun r s1 h10 hq => ?_)
        obtain ⟨rfl, rfl, hq⟩ := hq
        have K := K h10 hq
        refine zw.st (st' := []) rfl ?_
        refine zw_aload_n 1 dX7_characteristic_68 rfl rfl rfl ?_
        refine zw_aload_n 1 dX7_characteristic_69 rfl rfl rfl ?_
        refine zw_getR f_X7_10 dX7_characteristic_70 zs_0 rfl rfl ?_
        refine zw_getR f_X7_133 dX7_characteristic_73 zs_1 rfl rfl ?_
        refine zw_iload_n 3 dX7_characteristic_76 rfl rfl rfl ?_
        obtain ⟨j11, hj11, hn11, K⟩ := K
        refine zw_iald j11 dX7_characteristic_77 zs_2 ⟨hj11, hn11⟩ (by decide) rfl ?_
        obtain ⟨q12, ct, K⟩ := K
        refine zw_callV (n := 1) (As := [.int (h10.1 2 j11)]) (rest := []) ct my_X7_blockCountOf rfl rfl k_X7_177 i_X7_blockCountOf s_X7_blockCountOf zs_0 rfl dX7_characteristic_78 (by decide) (Nat.le_of_ble_eq_true rfl) (Nat.le_refl 0) (Nat.le_refl 0) rfl (fun r s1 h12 hq => ?_)
        obtain ⟨x12, rfl, rfl, hq⟩ := hq
        have K := K x12 h12 hq
        refine zw.st (st' := [.int x12]) rfl ?_
        refine zw_istore dX7_characteristic_81 (by decide) rfl rfl ?_
        refine zw_lconst (v := (0 : Int64)) dX7_characteristic_83 (by decide) rfl ?_
        refine zw_lstore dX7_characteristic_84 (by decide) rfl rfl ?_
        refine zw_iconst (v := (0 : Int32)) dX7_characteristic_86 (by decide) rfl ?_
        refine zw_istore dX7_characteristic_87 (by decide) rfl rfl ?_
        exact zw.sub [4, 7, 2, 1, 0] rfl K
      · have K := K.2 c
        refine zw_ldc2 n_X7_243 dX7_characteristic_47 rfl ?_
        refine zw_iload 0 dX7_characteristic_50 rfl rfl ?_
        refine zw_i2l dX7_characteristic_52 rfl ?_
        refine zw_ladd dX7_characteristic_53 rfl ?_
        exact zw_lreturn dX7_characteristic_54 rfl (Nat.le_refl 0) (Nat.le_refl 0) ⟨_, rfl, rfl, K⟩
    · have K := K.2 c
      refine zw_bipush (v := (-3 : Int32)) dX7_characteristic_38 (by decide) rfl ?_
      refine zw_istore dX7_characteristic_40 (by decide) rfl rfl ?_
      refine zw_iload 0 dX7_characteristic_42 rfl rfl ?_
      refine zw_if_eq (tg := 55) dX7_characteristic_44 (by decide) rfl (fun c => ?_) (fun c => ?_)
      · have K := K.1 c
        refine zw_aload_n 1 dX7_characteristic_55 rfl rfl rfl ?_
        refine zw_iload_n 2 dX7_characteristic_56 rfl rfl rfl ?_
        refine zw_iload_n 3 dX7_characteristic_57 rfl rfl rfl ?_
        obtain ⟨q13, ct, K⟩ := K
        refine zw_callV (n := 2) (As := [.int v1, .int v2]) (rest := []) ct my_X7_selectSpan rfl rfl k_X7_238 i_X7_selectSpan s_X7_selectSpan zs_0 rfl dX7_characteristic_58 (by decide) (Nat.le_of_ble_eq_true rfl) (Nat.le_refl 0) (Nat.le_refl 0) rfl (fun r s1 h13 hq => ?_)
        obtain ⟨rfl, rfl, hq⟩ := hq
        have K := K h13 hq
        refine zw.st (st' := []) rfl ?_
        refine zw_aload_n 1 dX7_characteristic_61 rfl rfl rfl ?_
        refine zw_getR f_X7_47 dX7_characteristic_62 zs_0 rfl rfl ?_
        obtain ⟨q14, ct, K⟩ := K
        refine zw_callV (n := 0) (As := []) (rest := []) ct my_X4_putMoebius rfl rfl k_X7_245 i_X4_putMoebius s_X4_putMoebius zs_43 rfl dX7_characteristic_65 (by decide) (Nat.le_of_ble_eq_true rfl) (Nat.le_refl 0) (Nat.le_refl 0) rfl (fun r s1 h14 hq => ?_)
        obtain ⟨rfl, rfl, hq⟩ := hq
        have K := K h14 hq
        refine zw.st (st' := []) rfl ?_
        refine zw_aload_n 1 dX7_characteristic_68 rfl rfl rfl ?_
        refine zw_aload_n 1 dX7_characteristic_69 rfl rfl rfl ?_
        refine zw_getR f_X7_10 dX7_characteristic_70 zs_0 rfl rfl ?_
        refine zw_getR f_X7_133 dX7_characteristic_73 zs_1 rfl rfl ?_
        refine zw_iload_n 3 dX7_characteristic_76 rfl rfl rfl ?_
        obtain ⟨j15, hj15, hn15, K⟩ := K
        refine zw_iald j15 dX7_characteristic_77 zs_2 ⟨hj15, hn15⟩ (by decide) rfl ?_
        obtain ⟨q16, ct, K⟩ := K
        refine zw_callV (n := 1) (As := [.int (h14.1 2 j15)]) (rest := []) ct my_X7_blockCountOf rfl rfl k_X7_177 i_X7_blockCountOf s_X7_blockCountOf zs_0 rfl dX7_characteristic_78 (by decide) (Nat.le_of_ble_eq_true rfl) (Nat.le_refl 0) (Nat.le_refl 0) rfl (fun r s1 h16 hq => ?_)
        obtain ⟨x16, rfl, rfl, hq⟩ := hq
        have K := K x16 h16 hq
        refine zw.st (st' := [.int x16]) rfl ?_
        refine zw_istore dX7_characteristic_81 (by decide) rfl rfl ?_
        refine zw_lconst (v := (0 : Int64)) dX7_characteristic_83 (by decide) rfl ?_
        refine zw_lstore dX7_characteristic_84 (by decide) rfl rfl ?_
        refine zw_iconst (v := (0 : Int32)) dX7_characteristic_86 (by decide) rfl ?_
        refine zw_istore dX7_characteristic_87 (by decide) rfl rfl ?_
        exact zw.sub [4, 7, 2, 1, 0] rfl K
      · have K := K.2 c
        refine zw_ldc2 n_X7_243 dX7_characteristic_47 rfl ?_
        refine zw_iload 0 dX7_characteristic_50 rfl rfl ?_
        refine zw_i2l dX7_characteristic_52 rfl ?_
        refine zw_ladd dX7_characteristic_53 rfl ?_
        exact zw_lreturn dX7_characteristic_54 rfl (Nat.le_refl 0) (Nat.le_refl 0) ⟨_, rfl, rfl, K⟩

set_option maxRecDepth 100000 in
set_option maxHeartbeats 4000000 in
theorem rX7_characteristic_89 {q : Int64 → zw_H → Prop} {h : zw_H} {v3 v5 v8 : Int32} {w6 : Int64} (K : (((h.1 43 4) ≤ v8 → q w6 h) ∧ (¬ (h.1 43 4) ≤ v8 → (∃ j1 : Nat, v8 = nI j1 ∧ j1 < 203 ∧ (∃ j2 : Nat, v8 = nI j2 ∧ j2 < 203 ∧ (∃ q3 : Int64 → zw_H → Prop, zcL 0 mX7_power [.int v3, .int ((h.1 45 j2) - v5)] h q3 ∧ (∀ (x3 : Int64) (h3 : zw_H), q3 x3 h3 → zwL 4 mX7_characteristic q 89 [(0, .ref 0), (3, .int v3), (5, .int v5), (6, .long (w6 + ((h.2 46 j1) * x3))), (8, .int (v8 + (1 : Int32)))] [] h3))))))) : zwL 4 mX7_characteristic q 89 [(0, .ref 0), (3, .int v3), (5, .int v5), (6, .long w6), (8, .int v8)] [] h := by
  refine zw_iload 4 dX7_characteristic_89 rfl rfl ?_
  refine zw_aload_n 0 dX7_characteristic_91 rfl rfl rfl ?_
  refine zw_getR f_X7_47 dX7_characteristic_92 zs_0 rfl rfl ?_
  refine zw_getI f_X7_242 dX7_characteristic_95 zs_43 rfl rfl ?_
  refine zw_icmp_ge (tg := 140) dX7_characteristic_98 (by decide) rfl (fun c => ?_) (fun c => ?_)
  · have K := K.1 c
    refine zw_lload 3 dX7_characteristic_140 rfl rfl ?_
    exact zw_lreturn dX7_characteristic_142 rfl (Nat.le_refl 0) (Nat.le_refl 0) ⟨_, rfl, rfl, K⟩
  · have K := K.2 c
    refine zw_lload 3 dX7_characteristic_101 rfl rfl ?_
    refine zw_aload_n 0 dX7_characteristic_103 rfl rfl rfl ?_
    refine zw_getR f_X7_47 dX7_characteristic_104 zs_0 rfl rfl ?_
    refine zw_getR f_X7_271 dX7_characteristic_107 zs_43 rfl rfl ?_
    refine zw_iload 4 dX7_characteristic_110 rfl rfl ?_
    obtain ⟨j1, hj1, hn1, K⟩ := K
    refine zw_lald j1 dX7_characteristic_112 zs_46 ⟨hj1, hn1⟩ (by decide) rfl ?_
    refine zw_iload_n 1 dX7_characteristic_113 rfl rfl rfl ?_
    refine zw_aload_n 0 dX7_characteristic_114 rfl rfl rfl ?_
    refine zw_getR f_X7_47 dX7_characteristic_115 zs_0 rfl rfl ?_
    refine zw_getR f_X7_264 dX7_characteristic_118 zs_43 rfl rfl ?_
    refine zw_iload 4 dX7_characteristic_121 rfl rfl ?_
    obtain ⟨j2, hj2, hn2, K⟩ := K
    refine zw_iald j2 dX7_characteristic_123 zs_45 ⟨hj2, hn2⟩ (by decide) rfl ?_
    refine zw_iload 2 dX7_characteristic_124 rfl rfl ?_
    refine zw_isub dX7_characteristic_126 rfl ?_
    obtain ⟨q3, ct, K⟩ := K
    refine zw_callS (n := 2) (As := [.int v3, .int ((h.1 45 j2) - v5)]) (rest := [.long (h.2 46 j1), .long w6]) ct my_X7_power rfl rfl k_X7_267 t_X7_power dX7_characteristic_127 (by decide) (Nat.le_of_ble_eq_true rfl) (Nat.le_refl 0) (Nat.le_refl 0) rfl (fun r s1 h3 hq => ?_)
    obtain ⟨x3, rfl, rfl, hq⟩ := hq
    have K := K x3 h3 hq
    refine zw.st (st' := [.long x3, .long (h.2 46 j1), .long w6]) rfl ?_
    refine zw_lmul dX7_characteristic_130 rfl ?_
    refine zw_ladd dX7_characteristic_131 rfl ?_
    refine zw_lstore dX7_characteristic_132 (by decide) rfl rfl ?_
    refine zw_iinc (v := (v8 + (1 : Int32))) 4 dX7_characteristic_134 rfl rfl (by decide) rfl rfl ?_
    refine zw_goto (np := 89) dX7_characteristic_137 (by decide) ?_
    exact zw.sub [2, 3, 4, 1, 0] rfl K

set_option maxRecDepth 100000 in
set_option maxHeartbeats 4000000 in
theorem rX7_transfers_0 {q : Int32 → zw_H → Prop} {h : zw_H} {v1 v2 : Int32} (K : (∃ q1 : Int32 → zw_H → Prop, zcI 1 mX7_faultOf [.ref 0, .int v1, .int v2, .int (1 : Int32)] h q1 ∧ (∀ (x1 : Int32) (h1 : zw_H), q1 x1 h1 → ((x1 = 0 → (∃ q2 : zw_H → Prop, zcV 3 mX7_spellRegister [.ref 0, .int v1] h1 q2 ∧ (∀ h2 : zw_H, q2 h2 → (∃ j3 : Nat, v2 = nI j3 ∧ j3 < 8 ∧ (∃ q4 : zw_H → Prop, zcV 2 mX3_spell [.ref 51, .int (h2.1 2 j3), .int (h2.1 1 1)] h2 q4 ∧ (∀ h4 : zw_H, q4 h4 → (∃ q5 : Int32 → zw_H → Prop, zcI 2 mX7_mostThatStay [.ref 0] h4 q5 ∧ (∀ (x5 : Int32) (h5 : zw_H), q5 x5 h5 → q ((h4.1 1 1) - x5) h5)))))))) ∧ (¬ x1 = 0 → q x1 h1))))) : zwI 4 mX7_transfers q 0 [(0, .ref 0), (1, .int v1), (2, .int v2)] [] h := by
  refine zw_aload_n 0 dX7_transfers_0 rfl rfl rfl ?_
  refine zw_iload_n 1 dX7_transfers_1 rfl rfl rfl ?_
  refine zw_iload_n 2 dX7_transfers_2 rfl rfl rfl ?_
  refine zw_iconst (v := (1 : Int32)) dX7_transfers_3 (by decide) rfl ?_
  obtain ⟨q1, ct, K⟩ := K
  refine zw_callV (n := 3) (As := [.int v1, .int v2, .int (1 : Int32)]) (rest := []) ct my_X7_faultOf rfl rfl k_X7_130 i_X7_faultOf s_X7_faultOf zs_0 rfl dX7_transfers_4 (by decide) (Nat.le_of_ble_eq_true rfl) (Nat.le_refl 0) (Nat.le_refl 0) rfl (fun r s1 h1 hq => ?_)
  obtain ⟨x1, rfl, rfl, hq⟩ := hq
  have K := K x1 h1 hq
  refine zw.st (st' := [.int x1]) rfl ?_
  refine zw_istore_n dX7_transfers_7 rfl (by decide) rfl rfl ?_
  refine zw_iload_n 0 dX7_transfers_8 rfl rfl rfl ?_
  refine zw_if_eq (tg := 14) dX7_transfers_9 (by decide) rfl (fun c => ?_) (fun c => ?_)
  · have K := K.1 c
    refine zw_aload_n 1 dX7_transfers_14 rfl rfl rfl ?_
    refine zw_iload_n 2 dX7_transfers_15 rfl rfl rfl ?_
    obtain ⟨q2, ct, K⟩ := K
    refine zw_callV (n := 1) (As := [.int v1]) (rest := []) ct my_X7_spellRegister rfl rfl k_X7_145 i_X7_spellRegister s_X7_spellRegister zs_0 rfl dX7_transfers_16 (by decide) (Nat.le_of_ble_eq_true rfl) (Nat.le_refl 0) (Nat.le_refl 0) rfl (fun r s1 h2 hq => ?_)
    obtain ⟨rfl, rfl, hq⟩ := hq
    have K := K h2 hq
    refine zw.st (st' := []) rfl ?_
    refine zw_aload_n 1 dX7_transfers_19 rfl rfl rfl ?_
    refine zw_getR f_X7_58 dX7_transfers_20 zs_0 rfl rfl ?_
    refine zw_aload_n 1 dX7_transfers_23 rfl rfl rfl ?_
    refine zw_getR f_X7_10 dX7_transfers_24 zs_0 rfl rfl ?_
    refine zw_getR f_X7_133 dX7_transfers_27 zs_1 rfl rfl ?_
    refine zw_iload_n 3 dX7_transfers_30 rfl rfl rfl ?_
    obtain ⟨j3, hj3, hn3, K⟩ := K
    refine zw_iald j3 dX7_transfers_31 zs_2 ⟨hj3, hn3⟩ (by decide) rfl ?_
    refine zw_aload_n 1 dX7_transfers_32 rfl rfl rfl ?_
    refine zw_getR f_X7_10 dX7_transfers_33 zs_0 rfl rfl ?_
    refine zw_getI f_X7_75 dX7_transfers_36 zs_1 rfl rfl ?_
    obtain ⟨q4, ct, K⟩ := K
    refine zw_callV (n := 2) (As := [.int (h2.1 2 j3), .int (h2.1 1 1)]) (rest := []) ct my_X3_spell rfl rfl k_X7_275 i_X3_spell s_X3_spell zs_51 rfl dX7_transfers_39 (by decide) (Nat.le_of_ble_eq_true rfl) (Nat.le_refl 0) (Nat.le_refl 0) rfl (fun r s1 h4 hq => ?_)
    obtain ⟨rfl, rfl, hq⟩ := hq
    have K := K h4 hq
    refine zw.st (st' := []) rfl ?_
    refine zw_aload_n 1 dX7_transfers_42 rfl rfl rfl ?_
    refine zw_getR f_X7_10 dX7_transfers_43 zs_0 rfl rfl ?_
    refine zw_getI f_X7_75 dX7_transfers_46 zs_1 rfl rfl ?_
    refine zw_aload_n 1 dX7_transfers_49 rfl rfl rfl ?_
    obtain ⟨q5, ct, K⟩ := K
    refine zw_callV (n := 0) (As := []) (rest := [.int (h4.1 1 1)]) ct my_X7_mostThatStay rfl rfl k_X7_278 i_X7_mostThatStay s_X7_mostThatStay zs_0 rfl dX7_transfers_50 (by decide) (Nat.le_of_ble_eq_true rfl) (Nat.le_refl 0) (Nat.le_refl 0) rfl (fun r s1 h5 hq => ?_)
    obtain ⟨x5, rfl, rfl, hq⟩ := hq
    have K := K x5 h5 hq
    refine zw.st (st' := [.int x5, .int (h4.1 1 1)]) rfl ?_
    refine zw_isub dX7_transfers_53 rfl ?_
    exact zw_ireturn (ty := .int) dX7_transfers_54 rfl rfl (Nat.le_refl 0) (Nat.le_refl 0) ⟨_, rfl, rfl, K⟩
  · have K := K.2 c
    refine zw_iload_n 0 dX7_transfers_12 rfl rfl rfl ?_
    exact zw_ireturn (ty := .int) dX7_transfers_13 rfl rfl (Nat.le_refl 0) (Nat.le_refl 0) ⟨_, rfl, rfl, K⟩

set_option maxRecDepth 100000 in
set_option maxHeartbeats 4000000 in
theorem rX7_disagreements_0 {q : Int32 → zw_H → Prop} {h : zw_H} {v1 v2 : Int32} (K : (∃ q1 : Int32 → zw_H → Prop, zcI 1 mX7_faultOf [.ref 0, .int v1, .int v2, .int (1 : Int32)] h q1 ∧ (∀ (x1 : Int32) (h1 : zw_H), q1 x1 h1 → ((x1 = 0 → (∃ j2 : Nat, v1 = nI j2 ∧ j2 < 8 ∧ (∃ j3 : Nat, v2 = nI j3 ∧ j3 < 8 ∧ (∃ q4 : Int32 → zw_H → Prop, zcI 0 mJ6_bitCount_0f7a4 [.int ((h1.1 2 j2) ^^^ (h1.1 2 j3))] h1 q4 ∧ (∀ (x4 : Int32) (h4 : zw_H), q4 x4 h4 → q x4 h4))))) ∧ (¬ x1 = 0 → q x1 h1))))) : zwI 2 mX7_disagreements q 0 [(0, .ref 0), (1, .int v1), (2, .int v2)] [] h := by
  refine zw_aload_n 0 dX7_disagreements_0 rfl rfl rfl ?_
  refine zw_iload_n 1 dX7_disagreements_1 rfl rfl rfl ?_
  refine zw_iload_n 2 dX7_disagreements_2 rfl rfl rfl ?_
  refine zw_iconst (v := (1 : Int32)) dX7_disagreements_3 (by decide) rfl ?_
  obtain ⟨q1, ct, K⟩ := K
  refine zw_callV (n := 3) (As := [.int v1, .int v2, .int (1 : Int32)]) (rest := []) ct my_X7_faultOf rfl rfl k_X7_130 i_X7_faultOf s_X7_faultOf zs_0 rfl dX7_disagreements_4 (by decide) (Nat.le_of_ble_eq_true rfl) (Nat.le_refl 0) (Nat.le_refl 0) rfl (fun r s1 h1 hq => ?_)
  obtain ⟨x1, rfl, rfl, hq⟩ := hq
  have K := K x1 h1 hq
  refine zw.st (st' := [.int x1]) rfl ?_
  refine zw_istore_n dX7_disagreements_7 rfl (by decide) rfl rfl ?_
  refine zw_iload_n 0 dX7_disagreements_8 rfl rfl rfl ?_
  refine zw_if_eq (tg := 14) dX7_disagreements_9 (by decide) rfl (fun c => ?_) (fun c => ?_)
  · have K := K.1 c
    refine zw_aload_n 1 dX7_disagreements_14 rfl rfl rfl ?_
    refine zw_getR f_X7_10 dX7_disagreements_15 zs_0 rfl rfl ?_
    refine zw_getR f_X7_133 dX7_disagreements_18 zs_1 rfl rfl ?_
    refine zw_iload_n 2 dX7_disagreements_21 rfl rfl rfl ?_
    obtain ⟨j2, hj2, hn2, K⟩ := K
    refine zw_iald j2 dX7_disagreements_22 zs_2 ⟨hj2, hn2⟩ (by decide) rfl ?_
    refine zw_aload_n 1 dX7_disagreements_23 rfl rfl rfl ?_
    refine zw_getR f_X7_10 dX7_disagreements_24 zs_0 rfl rfl ?_
    refine zw_getR f_X7_133 dX7_disagreements_27 zs_1 rfl rfl ?_
    refine zw_iload_n 3 dX7_disagreements_30 rfl rfl rfl ?_
    obtain ⟨j3, hj3, hn3, K⟩ := K
    refine zw_iald j3 dX7_disagreements_31 zs_2 ⟨hj3, hn3⟩ (by decide) rfl ?_
    refine zw_ixor dX7_disagreements_32 rfl ?_
    obtain ⟨q4, ct, K⟩ := K
    refine zw_callS (n := 1) (As := [.int ((h1.1 2 j2) ^^^ (h1.1 2 j3))]) (rest := []) ct my_J6_bitCount_0f7a4 rfl rfl k_X7_281 t_J6_bitCount_0f7a4 dX7_disagreements_33 (by decide) (Nat.le_of_ble_eq_true rfl) (Nat.le_refl 0) (Nat.le_refl 0) rfl (fun r s1 h4 hq => ?_)
    obtain ⟨x4, rfl, rfl, hq⟩ := hq
    have K := K x4 h4 hq
    refine zw.st (st' := [.int x4]) rfl ?_
    exact zw_ireturn (ty := .int) dX7_disagreements_36 rfl rfl (Nat.le_refl 0) (Nat.le_refl 0) ⟨_, rfl, rfl, K⟩
  · have K := K.2 c
    refine zw_iload_n 0 dX7_disagreements_12 rfl rfl rfl ?_
    exact zw_ireturn (ty := .int) dX7_disagreements_13 rfl rfl (Nat.le_refl 0) (Nat.le_refl 0) ⟨_, rfl, rfl, K⟩

set_option maxRecDepth 100000 in
set_option maxHeartbeats 4000000 in
theorem rX7_median_0 {q : Int32 → zw_H → Prop} {h : zw_H} {v1 v2 : Int32} (K : ((v1 < (1 : Int32) → q (-1 : Int32) h) ∧ (¬ v1 < (1 : Int32) → (((256 : Int32) ≤ v1 → q (-1 : Int32) h) ∧ (¬ (256 : Int32) ≤ v1 → (∃ q1 : Int32 → zw_H → Prop, zcI 0 mX7_isRegister [.int v2] h q1 ∧ (∀ (x1 : Int32) (h1 : zw_H), q1 x1 h1 → ((¬ x1 = 0 → zwI 3 mX7_median q 23 [(0, .ref 0), (1, .int v1), (2, .int v2), (3, .int (0 : Int32))] [] h1) ∧ (x1 = 0 → q (-1 : Int32) h1))))))))) : zwI 3 mX7_median q 0 [(0, .ref 0), (1, .int v1), (2, .int v2)] [] h := by
  refine zw_iload_n 1 dX7_median_0 rfl rfl rfl ?_
  refine zw_iconst (v := (1 : Int32)) dX7_median_1 (by decide) rfl ?_
  refine zw_icmp_lt (tg := 19) dX7_median_2 (by decide) rfl (fun c => ?_) (fun c => ?_)
  · have K := K.1 c
    refine zw_iconst (v := (-1 : Int32)) dX7_median_19 (by decide) rfl ?_
    exact zw_ireturn (ty := .int) dX7_median_20 rfl rfl (Nat.le_refl 0) (Nat.le_refl 0) ⟨_, rfl, rfl, K⟩
  · have K := K.2 c
    refine zw_iload_n 1 dX7_median_5 rfl rfl rfl ?_
    refine zw_sipush (v := (256 : Int32)) dX7_median_6 (by decide) rfl ?_
    refine zw_icmp_ge (tg := 19) dX7_median_9 (by decide) rfl (fun c => ?_) (fun c => ?_)
    · have K := K.1 c
      refine zw_iconst (v := (-1 : Int32)) dX7_median_19 (by decide) rfl ?_
      exact zw_ireturn (ty := .int) dX7_median_20 rfl rfl (Nat.le_refl 0) (Nat.le_refl 0) ⟨_, rfl, rfl, K⟩
    · have K := K.2 c
      refine zw_iload_n 2 dX7_median_12 rfl rfl rfl ?_
      obtain ⟨q1, ct, K⟩ := K
      refine zw_callS (n := 1) (As := [.int v2]) (rest := []) ct my_X7_isRegister rfl rfl k_X7_117 t_X7_isRegister dX7_median_13 (by decide) (Nat.le_of_ble_eq_true rfl) (Nat.le_refl 0) (Nat.le_refl 0) rfl (fun r s1 h1 hq => ?_)
      obtain ⟨x1, rfl, rfl, hq⟩ := hq
      have K := K x1 h1 hq
      refine zw.st (st' := [.int x1]) rfl ?_
      refine zw_if_ne (tg := 21) dX7_median_16 (by decide) rfl (fun c => ?_) (fun c => ?_)
      · have K := K.1 c
        refine zw_iconst (v := (0 : Int32)) dX7_median_21 (by decide) rfl ?_
        refine zw_istore_n dX7_median_22 rfl (by decide) rfl rfl ?_
        exact zw.sub [1, 2, 3, 0] rfl K
      · have K := K.2 c
        refine zw_iconst (v := (-1 : Int32)) dX7_median_19 (by decide) rfl ?_
        exact zw_ireturn (ty := .int) dX7_median_20 rfl rfl (Nat.le_refl 0) (Nat.le_refl 0) ⟨_, rfl, rfl, K⟩

set_option maxRecDepth 100000 in
set_option maxHeartbeats 4000000 in
theorem rX7_median_23 {q : Int32 → zw_H → Prop} {h : zw_H} {v1 v2 v3 : Int32} (K : (((8 : Int32) ≤ v3 → ((¬ (h.1 37 5) = 0 → (∃ q1 : Int32 → zw_H → Prop, zcI 1 mX7_disagreementsWith [.ref 0, .int v1, .int (h.1 38 0)] h q1 ∧ (∀ (x1 : Int32) (h1 : zw_H), q1 x1 h1 → zwI 3 mX7_median q 93 [(0, .ref 0), (1, .int v1), (2, .int v2), (3, .int (0 : Int32)), (4, .int x1), (5, .int (1 : Int32))] [] h1))) ∧ ((h.1 37 5) = 0 → q (-3 : Int32) h))) ∧ (¬ (8 : Int32) ≤ v3 → ((((v1 >>> (v3 &&& 31)) &&& (1 : Int32)) = 0 → zwI 3 mX7_median q 23 [(0, .ref 0), (1, .int v1), (2, .int v2), (3, .int (v3 + (1 : Int32)))] [] h) ∧ (¬ ((v1 >>> (v3 &&& 31)) &&& (1 : Int32)) = 0 → (∃ j2 : Nat, v3 = nI j2 ∧ j2 < 8 ∧ ((¬ (h.1 2 j2) = (-1 : Int32) → zwI 3 mX7_median q 23 [(0, .ref 0), (1, .int v1), (2, .int v2), (3, .int (v3 + (1 : Int32)))] [] h) ∧ ((h.1 2 j2) = (-1 : Int32) → q (-2 : Int32) h)))))))) : zwI 3 mX7_median q 23 [(0, .ref 0), (1, .int v1), (2, .int v2), (3, .int v3)] [] h := by
  refine zw_iload_n 3 dX7_median_23 rfl rfl rfl ?_
  refine zw_bipush (v := (8 : Int32)) dX7_median_24 (by decide) rfl ?_
  refine zw_icmp_ge (tg := 59) dX7_median_26 (by decide) rfl (fun c => ?_) (fun c => ?_)
  · have K := K.1 c
    refine zw_aload_n 0 dX7_median_59 rfl rfl rfl ?_
    refine zw_getR f_X7_40 dX7_median_60 zs_0 rfl rfl ?_
    refine zw_getI f_X7_173 dX7_median_63 zs_37 rfl rfl ?_
    refine zw_if_ne (tg := 72) dX7_median_66 (by decide) rfl (fun c => ?_) (fun c => ?_)
    · have K := K.1 c
      refine zw_iconst (v := (0 : Int32)) dX7_median_72 (by decide) rfl ?_
      refine zw_istore_n dX7_median_73 rfl (by decide) rfl rfl ?_
      refine zw_aload_n 1 dX7_median_74 rfl rfl rfl ?_
      refine zw_iload_n 2 dX7_median_75 rfl rfl rfl ?_
      refine zw_aload_n 1 dX7_median_76 rfl rfl rfl ?_
      refine zw_getR f_X7_40 dX7_median_77 zs_0 rfl rfl ?_
      refine zw_getR f_X7_158 dX7_median_80 zs_37 rfl rfl ?_
      refine zw_iconst (v := (0 : Int32)) dX7_median_83 (by decide) rfl ?_
      refine zw_iald 0 dX7_median_84 zs_38 ⟨by decide, by decide⟩ (by decide) rfl ?_
      obtain ⟨q1, ct, K⟩ := K
      refine zw_callV (n := 2) (As := [.int v1, .int (h.1 38 0)]) (rest := []) ct my_X7_disagreementsWith rfl rfl k_X7_286 i_X7_disagreementsWith s_X7_disagreementsWith zs_0 rfl dX7_median_85 (by decide) (Nat.le_of_ble_eq_true rfl) (Nat.le_refl 0) (Nat.le_refl 0) rfl (fun r s1 h1 hq => ?_)
      obtain ⟨x1, rfl, rfl, hq⟩ := hq
      have K := K x1 h1 hq
      refine zw.st (st' := [.int x1]) rfl ?_
      refine zw_istore dX7_median_88 (by decide) rfl rfl ?_
      refine zw_iconst (v := (1 : Int32)) dX7_median_90 (by decide) rfl ?_
      refine zw_istore dX7_median_91 (by decide) rfl rfl ?_
      exact zw.sub [3, 4, 5, 2, 1, 0] rfl K
    · have K := K.2 c
      refine zw_bipush (v := (-3 : Int32)) dX7_median_69 (by decide) rfl ?_
      exact zw_ireturn (ty := .int) dX7_median_71 rfl rfl (Nat.le_refl 0) (Nat.le_refl 0) ⟨_, rfl, rfl, K⟩
  · have K := K.2 c
    refine zw_iload_n 1 dX7_median_29 rfl rfl rfl ?_
    refine zw_iload_n 3 dX7_median_30 rfl rfl rfl ?_
    refine zw_ishr dX7_median_31 rfl ?_
    refine zw_iconst (v := (1 : Int32)) dX7_median_32 (by decide) rfl ?_
    refine zw_iand dX7_median_33 rfl ?_
    refine zw_if_eq (tg := 53) dX7_median_34 (by decide) rfl (fun c => ?_) (fun c => ?_)
    · have K := K.1 c
      refine zw_iinc (v := (v3 + (1 : Int32))) 3 dX7_median_53 rfl rfl (by decide) rfl rfl ?_
      refine zw_goto (np := 23) dX7_median_56 (by decide) ?_
      exact zw.sub [1, 2, 3, 0] rfl K
    · have K := K.2 c
      refine zw_aload_n 0 dX7_median_37 rfl rfl rfl ?_
      refine zw_getR f_X7_10 dX7_median_38 zs_0 rfl rfl ?_
      refine zw_getR f_X7_133 dX7_median_41 zs_1 rfl rfl ?_
      refine zw_iload_n 3 dX7_median_44 rfl rfl rfl ?_
      obtain ⟨j2, hj2, hn2, K⟩ := K
      refine zw_iald j2 dX7_median_45 zs_2 ⟨hj2, hn2⟩ (by decide) rfl ?_
      refine zw_iconst (v := (-1 : Int32)) dX7_median_46 (by decide) rfl ?_
      refine zw_icmp_ne (tg := 53) dX7_median_47 (by decide) rfl (fun c => ?_) (fun c => ?_)
      · have K := K.1 c
        refine zw_iinc (v := (v3 + (1 : Int32))) 3 dX7_median_53 rfl rfl (by decide) rfl rfl ?_
        refine zw_goto (np := 23) dX7_median_56 (by decide) ?_
        exact zw.sub [1, 2, 3, 0] rfl K
      · have K := K.2 c
        refine zw_bipush (v := (-2 : Int32)) dX7_median_50 (by decide) rfl ?_
        exact zw_ireturn (ty := .int) dX7_median_52 rfl rfl (Nat.le_refl 0) (Nat.le_refl 0) ⟨_, rfl, rfl, K⟩

set_option maxRecDepth 100000 in
set_option maxHeartbeats 4000000 in
theorem rX7_median_93 {q : Int32 → zw_H → Prop} {h : zw_H} {v1 v2 v3 v4 v5 : Int32} (K : (((h.1 37 5) ≤ v5 → (∃ q1 : Int32 → zw_H → Prop, zcI 2 mX7_stepTo [.ref 0, .int v2, .int v3] h q1 ∧ (∀ (x1 : Int32) (h1 : zw_H), q1 x1 h1 → q v4 h1))) ∧ (¬ (h.1 37 5) ≤ v5 → (∃ j2 : Nat, v5 = nI j2 ∧ j2 < 203 ∧ (∃ q3 : Int32 → zw_H → Prop, zcI 1 mX7_disagreementsWith [.ref 0, .int v1, .int (h.1 38 j2)] h q3 ∧ (∀ (x3 : Int32) (h3 : zw_H), q3 x3 h3 → ((v4 ≤ x3 → zwI 3 mX7_median q 93 [(0, .ref 0), (1, .int v1), (2, .int v2), (3, .int v3), (4, .int v4), (5, .int (v5 + (1 : Int32)))] [] h3) ∧ (¬ v4 ≤ x3 → zwI 3 mX7_median q 93 [(0, .ref 0), (1, .int v1), (2, .int v2), (3, .int v5), (4, .int x3), (5, .int (v5 + (1 : Int32)))] [] h3)))))))) : zwI 3 mX7_median q 93 [(0, .ref 0), (1, .int v1), (2, .int v2), (3, .int v3), (4, .int v4), (5, .int v5)] [] h := by
  refine zw_iload 5 dX7_median_93 rfl rfl ?_
  refine zw_aload_n 0 dX7_median_95 rfl rfl rfl ?_
  refine zw_getR f_X7_40 dX7_median_96 zs_0 rfl rfl ?_
  refine zw_getI f_X7_173 dX7_median_99 zs_37 rfl rfl ?_
  refine zw_icmp_ge (tg := 142) dX7_median_102 (by decide) rfl (fun c => ?_) (fun c => ?_)
  · have K := K.1 c
    refine zw_aload_n 0 dX7_median_142 rfl rfl rfl ?_
    refine zw_iload_n 2 dX7_median_143 rfl rfl rfl ?_
    refine zw_iload_n 3 dX7_median_144 rfl rfl rfl ?_
    obtain ⟨q1, ct, K⟩ := K
    refine zw_callV (n := 2) (As := [.int v2, .int v3]) (rest := []) ct my_X7_stepTo rfl rfl k_X7_167 i_X7_stepTo s_X7_stepTo zs_0 rfl dX7_median_145 (by decide) (Nat.le_of_ble_eq_true rfl) (Nat.le_refl 0) (Nat.le_refl 0) rfl (fun r s1 h1 hq => ?_)
    obtain ⟨x1, rfl, rfl, hq⟩ := hq
    have K := K x1 h1 hq
    refine zw.st (st' := [.int x1]) rfl ?_
    refine zw_pop dX7_median_148 rfl rfl ?_
    refine zw_iload 4 dX7_median_149 rfl rfl ?_
    exact zw_ireturn (ty := .int) dX7_median_151 rfl rfl (Nat.le_refl 0) (Nat.le_refl 0) ⟨_, rfl, rfl, K⟩
  · have K := K.2 c
    refine zw_aload_n 0 dX7_median_105 rfl rfl rfl ?_
    refine zw_iload_n 1 dX7_median_106 rfl rfl rfl ?_
    refine zw_aload_n 0 dX7_median_107 rfl rfl rfl ?_
    refine zw_getR f_X7_40 dX7_median_108 zs_0 rfl rfl ?_
    refine zw_getR f_X7_158 dX7_median_111 zs_37 rfl rfl ?_
    refine zw_iload 5 dX7_median_114 rfl rfl ?_
    obtain ⟨j2, hj2, hn2, K⟩ := K
    refine zw_iald j2 dX7_median_116 zs_38 ⟨hj2, hn2⟩ (by decide) rfl ?_
    obtain ⟨q3, ct, K⟩ := K
    refine zw_callV (n := 2) (As := [.int v1, .int (h.1 38 j2)]) (rest := []) ct my_X7_disagreementsWith rfl rfl k_X7_286 i_X7_disagreementsWith s_X7_disagreementsWith zs_0 rfl dX7_median_117 (by decide) (Nat.le_of_ble_eq_true rfl) (Nat.le_refl 0) (Nat.le_refl 0) rfl (fun r s1 h3 hq => ?_)
    obtain ⟨x3, rfl, rfl, hq⟩ := hq
    have K := K x3 h3 hq
    refine zw.st (st' := [.int x3]) rfl ?_
    refine zw_istore dX7_median_120 (by decide) rfl rfl ?_
    refine zw_iload 0 dX7_median_122 rfl rfl ?_
    refine zw_iload 5 dX7_median_124 rfl rfl ?_
    refine zw_icmp_ge (tg := 136) dX7_median_126 (by decide) rfl (fun c => ?_) (fun c => ?_)
    · have K := K.1 c
      refine zw_iinc (v := (v5 + (1 : Int32))) 6 dX7_median_136 rfl rfl (by decide) rfl rfl ?_
      refine zw_goto (np := 93) dX7_median_139 (by decide) ?_
      exact zw.sub [2, 3, 4, 5, 6, 0] rfl K
    · have K := K.2 c
      refine zw_iload 0 dX7_median_129 rfl rfl ?_
      refine zw_istore dX7_median_131 (by decide) rfl rfl ?_
      refine zw_iload 6 dX7_median_133 rfl rfl ?_
      refine zw_istore_n dX7_median_135 rfl (by decide) rfl rfl ?_
      refine zw_iinc (v := (v5 + (1 : Int32))) 6 dX7_median_136 rfl rfl (by decide) rfl rfl ?_
      refine zw_goto (np := 93) dX7_median_139 (by decide) ?_
      exact zw.sub [4, 5, 6, 1, 2, 0] rfl K

set_option maxRecDepth 100000 in
set_option maxHeartbeats 4000000 in
theorem rX7_undo_0 {q : Int32 → zw_H → Prop} {h : zw_H} (K : (∃ q1 : Int32 → zw_H → Prop, zcI 1 mX1_restore [.ref 3, .ref 1] h q1 ∧ (∀ (x1 : Int32) (h1 : zw_H), q1 x1 h1 → ((¬ x1 = 0 → (∃ q2 : zw_H → Prop, zcV 5 mX7_refresh [.ref 0] h1 q2 ∧ (∀ h2 : zw_H, q2 h2 → q (h2.1 3 2) h2))) ∧ (x1 = 0 → q (-3 : Int32) h1))))) : zwI 6 mX7_undo q 0 [(0, .ref 0)] [] h := by
  refine zw_aload_n 0 dX7_undo_0 rfl rfl rfl ?_
  refine zw_getR f_X7_19 dX7_undo_1 zs_0 rfl rfl ?_
  refine zw_aload_n 0 dX7_undo_4 rfl rfl rfl ?_
  refine zw_getR f_X7_10 dX7_undo_5 zs_0 rfl rfl ?_
  obtain ⟨q1, ct, K⟩ := K
  refine zw_callV (n := 1) (As := [.ref 1]) (rest := []) ct my_X1_restore rfl rfl k_X7_289 i_X1_restore s_X1_restore zs_3 rfl dX7_undo_8 (by decide) (Nat.le_of_ble_eq_true rfl) (Nat.le_refl 0) (Nat.le_refl 0) rfl (fun r s1 h1 hq => ?_)
  obtain ⟨x1, rfl, rfl, hq⟩ := hq
  have K := K x1 h1 hq
  refine zw.st (st' := [.int x1]) rfl ?_
  refine zw_if_ne (tg := 17) dX7_undo_11 (by decide) rfl (fun c => ?_) (fun c => ?_)
  · have K := K.1 c
    refine zw_aload_n 0 dX7_undo_17 rfl rfl rfl ?_
    obtain ⟨q2, ct, K⟩ := K
    refine zw_callV (n := 0) (As := []) (rest := []) ct my_X7_refresh rfl rfl k_X7_72 i_X7_refresh s_X7_refresh zs_0 rfl dX7_undo_18 (by decide) (Nat.le_of_ble_eq_true rfl) (Nat.le_refl 0) (Nat.le_refl 0) rfl (fun r s1 h2 hq => ?_)
    obtain ⟨rfl, rfl, hq⟩ := hq
    have K := K h2 hq
    refine zw.st (st' := []) rfl ?_
    refine zw_aload_n 0 dX7_undo_21 rfl rfl rfl ?_
    refine zw_getR f_X7_19 dX7_undo_22 zs_0 rfl rfl ?_
    refine zw_getI f_X7_293 dX7_undo_25 zs_3 rfl rfl ?_
    exact zw_ireturn (ty := .int) dX7_undo_28 rfl rfl (Nat.le_refl 0) (Nat.le_refl 0) ⟨_, rfl, rfl, K⟩
  · have K := K.2 c
    refine zw_bipush (v := (-3 : Int32)) dX7_undo_14 (by decide) rfl ?_
    exact zw_ireturn (ty := .int) dX7_undo_16 rfl rfl (Nat.le_refl 0) (Nat.le_refl 0) ⟨_, rfl, rfl, K⟩

set_option maxRecDepth 100000 in
set_option maxHeartbeats 4000000 in
theorem rX7_told_0 {q : Int32 → zw_H → Prop} {h : zw_H} {v1 : Int32} (K : (((Int32.toInt v1 < 0 ∨ 8 < Int32.toInt v1) → q (-1 : Int32) h) ∧ (v1 = (0 : Int32) → q (h.1 1 1) h) ∧ (v1 = (1 : Int32) → (∃ q1 : Int32 → zw_H → Prop, zcI 0 mX5_filledRegisters [.ref 1] h q1 ∧ (∀ (x1 : Int32) (h1 : zw_H), q1 x1 h1 → q x1 h1))) ∧ (v1 = (2 : Int32) → q (h.1 1 2) h) ∧ (v1 = (3 : Int32) → q (h.1 1 3) h) ∧ (v1 = (4 : Int32) → (∃ q2 : Int32 → zw_H → Prop, zcI 0 mJ6_bitCount_0f7a4 [.int (h.1 1 4)] h q2 ∧ (∀ (x2 : Int32) (h2 : zw_H), q2 x2 h2 → q x2 h2))) ∧ (v1 = (5 : Int32) → (∃ q3 : Int32 → zw_H → Prop, zcI 0 mJ6_bitCount_0f7a4 [.int (h.1 1 5)] h q3 ∧ (∀ (x3 : Int32) (h3 : zw_H), q3 x3 h3 → q x3 h3))) ∧ (v1 = (6 : Int32) → (((h.1 1 6) = 0 → q (0 : Int32) h) ∧ (¬ (h.1 1 6) = 0 → q (1 : Int32) h))) ∧ (v1 = (7 : Int32) → q (h.1 25 1) h) ∧ (v1 = (8 : Int32) → q (h.1 3 2) h))) : zwI 1 mX7_told q 0 [(0, .ref 0), (1, .int v1)] [] h := by
  refine zw_iload_n 1 dX7_told_0 rfl rfl rfl ?_
  by_cases cs : Int32.toInt v1 < 0 ∨ 8 < Int32.toInt v1
  · have K := K.1 cs
    refine zw_tabOut (np := 138) dX7_told_1 cs (by decide) ?_
    refine zw_iconst (v := (-1 : Int32)) dX7_told_138 (by decide) rfl ?_
    exact zw_ireturn (ty := .int) dX7_told_139 rfl rfl (Nat.le_refl 0) (Nat.le_refl 0) ⟨_, rfl, rfl, K⟩
  · have K := K.2
    have e : Int32.toInt v1 = 0 ∨ Int32.toInt v1 = 1 ∨ Int32.toInt v1 = 2 ∨ Int32.toInt v1 = 3 ∨ Int32.toInt v1 = 4 ∨ Int32.toInt v1 = 5 ∨ Int32.toInt v1 = 6 ∨ Int32.toInt v1 = 7 ∨ Int32.toInt v1 = 8 := by omega
    rcases e with e | e | e | e | e | e | e | e | e
    · have e2 : v1 = (0 : Int32) := zw_eqI e (by decide)
      have K := K.1 e2
      refine zw_tabIn (np := 52) (off := 51) dX7_told_1 (by rw [e]; decide) (by rw [e]; decide) (by rw [e]; rfl) (by decide) ?_
      refine zw_aload_n 0 dX7_told_52 rfl rfl rfl ?_
      refine zw_getR f_X7_10 dX7_told_53 zs_0 rfl rfl ?_
      refine zw_getI f_X7_75 dX7_told_56 zs_1 rfl rfl ?_
      exact zw_ireturn (ty := .int) dX7_told_59 rfl rfl (Nat.le_refl 0) (Nat.le_refl 0) ⟨_, rfl, rfl, K⟩
    · have e2 : v1 = (1 : Int32) := zw_eqI e (by decide)
      have K := K.2.1 e2
      refine zw_tabIn (np := 60) (off := 59) dX7_told_1 (by rw [e]; decide) (by rw [e]; decide) (by rw [e]; rfl) (by decide) ?_
      refine zw_aload_n 0 dX7_told_60 rfl rfl rfl ?_
      refine zw_getR f_X7_10 dX7_told_61 zs_0 rfl rfl ?_
      obtain ⟨q1, ct, K⟩ := K
      refine zw_callV (n := 0) (As := []) (rest := []) ct my_X5_filledRegisters rfl rfl k_X7_296 i_X5_filledRegisters s_X5_filledRegisters zs_1 rfl dX7_told_64 (by decide) (Nat.le_of_ble_eq_true rfl) (Nat.le_refl 0) (Nat.le_refl 0) rfl (fun r s1 h1 hq => ?_)
      obtain ⟨x1, rfl, rfl, hq⟩ := hq
      have K := K x1 h1 hq
      refine zw.st (st' := [.int x1]) rfl ?_
      exact zw_ireturn (ty := .int) dX7_told_67 rfl rfl (Nat.le_refl 0) (Nat.le_refl 0) ⟨_, rfl, rfl, K⟩
    · have e2 : v1 = (2 : Int32) := zw_eqI e (by decide)
      have K := K.2.2.1 e2
      refine zw_tabIn (np := 68) (off := 67) dX7_told_1 (by rw [e]; decide) (by rw [e]; decide) (by rw [e]; rfl) (by decide) ?_
      refine zw_aload_n 0 dX7_told_68 rfl rfl rfl ?_
      refine zw_getR f_X7_10 dX7_told_69 zs_0 rfl rfl ?_
      refine zw_getI f_X7_83 dX7_told_72 zs_1 rfl rfl ?_
      exact zw_ireturn (ty := .int) dX7_told_75 rfl rfl (Nat.le_refl 0) (Nat.le_refl 0) ⟨_, rfl, rfl, K⟩
    · have e2 : v1 = (3 : Int32) := zw_eqI e (by decide)
      have K := K.2.2.2.1 e2
      refine zw_tabIn (np := 76) (off := 75) dX7_told_1 (by rw [e]; decide) (by rw [e]; decide) (by rw [e]; rfl) (by decide) ?_
      refine zw_aload_n 0 dX7_told_76 rfl rfl rfl ?_
      refine zw_getR f_X7_10 dX7_told_77 zs_0 rfl rfl ?_
      refine zw_getI f_X7_90 dX7_told_80 zs_1 rfl rfl ?_
      exact zw_ireturn (ty := .int) dX7_told_83 rfl rfl (Nat.le_refl 0) (Nat.le_refl 0) ⟨_, rfl, rfl, K⟩
    · have e2 : v1 = (4 : Int32) := zw_eqI e (by decide)
      have K := K.2.2.2.2.1 e2
      refine zw_tabIn (np := 84) (off := 83) dX7_told_1 (by rw [e]; decide) (by rw [e]; decide) (by rw [e]; rfl) (by decide) ?_
      refine zw_aload_n 0 dX7_told_84 rfl rfl rfl ?_
      refine zw_getR f_X7_10 dX7_told_85 zs_0 rfl rfl ?_
      refine zw_getI f_X7_101 dX7_told_88 zs_1 rfl rfl ?_
      obtain ⟨q2, ct, K⟩ := K
      refine zw_callS (n := 1) (As := [.int (h.1 1 4)]) (rest := []) ct my_J6_bitCount_0f7a4 rfl rfl k_X7_281 t_J6_bitCount_0f7a4 dX7_told_91 (by decide) (Nat.le_of_ble_eq_true rfl) (Nat.le_refl 0) (Nat.le_refl 0) rfl (fun r s1 h2 hq => ?_)
      obtain ⟨x2, rfl, rfl, hq⟩ := hq
      have K := K x2 h2 hq
      refine zw.st (st' := [.int x2]) rfl ?_
      exact zw_ireturn (ty := .int) dX7_told_94 rfl rfl (Nat.le_refl 0) (Nat.le_refl 0) ⟨_, rfl, rfl, K⟩
    · have e2 : v1 = (5 : Int32) := zw_eqI e (by decide)
      have K := K.2.2.2.2.2.1 e2
      refine zw_tabIn (np := 95) (off := 94) dX7_told_1 (by rw [e]; decide) (by rw [e]; decide) (by rw [e]; rfl) (by decide) ?_
      refine zw_aload_n 0 dX7_told_95 rfl rfl rfl ?_
      refine zw_getR f_X7_10 dX7_told_96 zs_0 rfl rfl ?_
      refine zw_getI f_X7_104 dX7_told_99 zs_1 rfl rfl ?_
      obtain ⟨q3, ct, K⟩ := K
      refine zw_callS (n := 1) (As := [.int (h.1 1 5)]) (rest := []) ct my_J6_bitCount_0f7a4 rfl rfl k_X7_281 t_J6_bitCount_0f7a4 dX7_told_102 (by decide) (Nat.le_of_ble_eq_true rfl) (Nat.le_refl 0) (Nat.le_refl 0) rfl (fun r s1 h3 hq => ?_)
      obtain ⟨x3, rfl, rfl, hq⟩ := hq
      have K := K x3 h3 hq
      refine zw.st (st' := [.int x3]) rfl ?_
      exact zw_ireturn (ty := .int) dX7_told_105 rfl rfl (Nat.le_refl 0) (Nat.le_refl 0) ⟨_, rfl, rfl, K⟩
    · have e2 : v1 = (6 : Int32) := zw_eqI e (by decide)
      have K := K.2.2.2.2.2.2.1 e2
      refine zw_tabIn (np := 106) (off := 105) dX7_told_1 (by rw [e]; decide) (by rw [e]; decide) (by rw [e]; rfl) (by decide) ?_
      refine zw_aload_n 0 dX7_told_106 rfl rfl rfl ?_
      refine zw_getR f_X7_10 dX7_told_107 zs_0 rfl rfl ?_
      refine zw_getI f_X7_107 dX7_told_110 zs_1 rfl rfl ?_
      refine zw_if_eq (tg := 120) dX7_told_113 (by decide) rfl (fun c => ?_) (fun c => ?_)
      · have K := K.1 c
        refine zw_iconst (v := (0 : Int32)) dX7_told_120 (by decide) rfl ?_
        exact zw_ireturn (ty := .int) dX7_told_121 rfl rfl (Nat.le_refl 0) (Nat.le_refl 0) ⟨_, rfl, rfl, K⟩
      · have K := K.2 c
        refine zw_iconst (v := (1 : Int32)) dX7_told_116 (by decide) rfl ?_
        refine zw_goto (np := 121) dX7_told_117 (by decide) ?_
        exact zw_ireturn (ty := .int) dX7_told_121 rfl rfl (Nat.le_refl 0) (Nat.le_refl 0) ⟨_, rfl, rfl, K⟩
    · have e2 : v1 = (7 : Int32) := zw_eqI e (by decide)
      have K := K.2.2.2.2.2.2.2.1 e2
      refine zw_tabIn (np := 122) (off := 121) dX7_told_1 (by rw [e]; decide) (by rw [e]; decide) (by rw [e]; rfl) (by decide) ?_
      refine zw_aload_n 0 dX7_told_122 rfl rfl rfl ?_
      refine zw_getR f_X7_26 dX7_told_123 zs_0 rfl rfl ?_
      refine zw_getI f_X7_114 dX7_told_126 zs_25 rfl rfl ?_
      exact zw_ireturn (ty := .int) dX7_told_129 rfl rfl (Nat.le_refl 0) (Nat.le_refl 0) ⟨_, rfl, rfl, K⟩
    · have e2 : v1 = (8 : Int32) := zw_eqI e (by decide)
      have K := K.2.2.2.2.2.2.2.2 e2
      refine zw_tabIn (np := 130) (off := 129) dX7_told_1 (by rw [e]; decide) (by rw [e]; decide) (by rw [e]; rfl) (by decide) ?_
      refine zw_aload_n 0 dX7_told_130 rfl rfl rfl ?_
      refine zw_getR f_X7_19 dX7_told_131 zs_0 rfl rfl ?_
      refine zw_getI f_X7_293 dX7_told_134 zs_3 rfl rfl ?_
      exact zw_ireturn (ty := .int) dX7_told_137 rfl rfl (Nat.le_refl 0) (Nat.le_refl 0) ⟨_, rfl, rfl, K⟩

set_option maxRecDepth 100000 in
set_option maxHeartbeats 4000000 in
theorem rX7_digest_0 {q : Int64 → zw_H → Prop} {h : zw_H} (K : zwL 7 mX7_digest q 6 [(0, .ref 0), (1, .long (18446 : Int64)), (3, .int (0 : Int32))] [] h) : zwL 7 mX7_digest q 0 [(0, .ref 0)] [] h := by
  refine zw_ldc2 n_X7_299 dX7_digest_0 rfl ?_
  refine zw_lstore_n dX7_digest_3 rfl (by decide) rfl rfl ?_
  refine zw_iconst (v := (0 : Int32)) dX7_digest_4 (by decide) rfl ?_
  refine zw_istore_n dX7_digest_5 rfl (by decide) rfl rfl ?_
  exact zw.sub [2, 1, 0] rfl K

set_option maxRecDepth 100000 in
set_option maxHeartbeats 4000000 in
theorem rX7_digest_6 {q : Int64 → zw_H → Prop} {h : zw_H} {v3 : Int32} {w1 : Int64} (K : (((8 : Int32) < v3 → (∃ q1 : Int32 → zw_H → Prop, zcI 0 mX7_count [.ref 0] h q1 ∧ (∀ (x1 : Int32) (h1 : zw_H), q1 x1 h1 → zwL 7 mX7_digest q 45 [(0, .ref 0), (1, .long (((31 : Int64) * w1) + (Int32.toInt64 x1))), (3, .int (1 : Int32))] [] h1))) ∧ (¬ (8 : Int32) < v3 → (∃ q2 : Int32 → zw_H → Prop, zcI 1 mX7_told [.ref 0, .int v3] h q2 ∧ (∀ (x2 : Int32) (h2 : zw_H), q2 x2 h2 → zwL 7 mX7_digest q 6 [(0, .ref 0), (1, .long (((31 : Int64) * w1) + (Int32.toInt64 x2))), (3, .int (v3 + (1 : Int32)))] [] h2))))) : zwL 7 mX7_digest q 6 [(0, .ref 0), (1, .long w1), (3, .int v3)] [] h := by
  refine zw_iload_n 2 dX7_digest_6 rfl rfl rfl ?_
  refine zw_bipush (v := (8 : Int32)) dX7_digest_7 (by decide) rfl ?_
  refine zw_icmp_gt (tg := 31) dX7_digest_9 (by decide) rfl (fun c => ?_) (fun c => ?_)
  · have K := K.1 c
    refine zw_ldc2 n_X7_301 dX7_digest_31 rfl ?_
    refine zw_lload_n 1 dX7_digest_34 rfl rfl rfl ?_
    refine zw_lmul dX7_digest_35 rfl ?_
    refine zw_aload_n 0 dX7_digest_36 rfl rfl rfl ?_
    obtain ⟨q1, ct, K⟩ := K
    refine zw_callV (n := 0) (As := []) (rest := [.long ((31 : Int64) * w1)]) ct my_X7_count rfl rfl k_X7_306 i_X7_count s_X7_count zs_0 rfl dX7_digest_37 (by decide) (Nat.le_of_ble_eq_true rfl) (Nat.le_refl 0) (Nat.le_refl 0) rfl (fun r s1 h1 hq => ?_)
    obtain ⟨x1, rfl, rfl, hq⟩ := hq
    have K := K x1 h1 hq
    refine zw.st (st' := [.int x1, .long ((31 : Int64) * w1)]) rfl ?_
    refine zw_i2l dX7_digest_40 rfl ?_
    refine zw_ladd dX7_digest_41 rfl ?_
    refine zw_lstore_n dX7_digest_42 rfl (by decide) rfl rfl ?_
    refine zw_iconst (v := (1 : Int32)) dX7_digest_43 (by decide) rfl ?_
    refine zw_istore_n dX7_digest_44 rfl (by decide) rfl rfl ?_
    exact zw.sub [2, 1, 0] rfl K
  · have K := K.2 c
    refine zw_ldc2 n_X7_301 dX7_digest_12 rfl ?_
    refine zw_lload_n 1 dX7_digest_15 rfl rfl rfl ?_
    refine zw_lmul dX7_digest_16 rfl ?_
    refine zw_aload_n 0 dX7_digest_17 rfl rfl rfl ?_
    refine zw_iload_n 2 dX7_digest_18 rfl rfl rfl ?_
    obtain ⟨q2, ct, K⟩ := K
    refine zw_callV (n := 1) (As := [.int v3]) (rest := [.long ((31 : Int64) * w1)]) ct my_X7_told rfl rfl k_X7_303 i_X7_told s_X7_told zs_0 rfl dX7_digest_19 (by decide) (Nat.le_of_ble_eq_true rfl) (Nat.le_refl 0) (Nat.le_refl 0) rfl (fun r s1 h2 hq => ?_)
    obtain ⟨x2, rfl, rfl, hq⟩ := hq
    have K := K x2 h2 hq
    refine zw.st (st' := [.int x2, .long ((31 : Int64) * w1)]) rfl ?_
    refine zw_i2l dX7_digest_22 rfl ?_
    refine zw_ladd dX7_digest_23 rfl ?_
    refine zw_lstore_n dX7_digest_24 rfl (by decide) rfl rfl ?_
    refine zw_iinc (v := (v3 + (1 : Int32))) 2 dX7_digest_25 rfl rfl (by decide) rfl rfl ?_
    refine zw_goto (np := 6) dX7_digest_28 (by decide) ?_
    exact zw.sub [2, 1, 0] rfl K

set_option maxRecDepth 100000 in
set_option maxHeartbeats 4000000 in
theorem rX7_digest_45 {q : Int64 → zw_H → Prop} {h : zw_H} {v3 : Int32} {w1 : Int64} (K : (((6 : Int32) < v3 → zwL 7 mX7_digest q 72 [(0, .ref 0), (1, .long w1), (3, .int (0 : Int32))] [] h) ∧ (¬ (6 : Int32) < v3 → (∃ q1 : Int32 → zw_H → Prop, zcI 0 mX7_countWith [.ref 0, .int v3] h q1 ∧ (∀ (x1 : Int32) (h1 : zw_H), q1 x1 h1 → zwL 7 mX7_digest q 45 [(0, .ref 0), (1, .long (((31 : Int64) * w1) + (Int32.toInt64 x1))), (3, .int (v3 + (1 : Int32)))] [] h1))))) : zwL 7 mX7_digest q 45 [(0, .ref 0), (1, .long w1), (3, .int v3)] [] h := by
  refine zw_iload_n 2 dX7_digest_45 rfl rfl rfl ?_
  refine zw_bipush (v := (6 : Int32)) dX7_digest_46 (by decide) rfl ?_
  refine zw_icmp_gt (tg := 70) dX7_digest_48 (by decide) rfl (fun c => ?_) (fun c => ?_)
  · have K := K.1 c
    refine zw_iconst (v := (0 : Int32)) dX7_digest_70 (by decide) rfl ?_
    refine zw_istore_n dX7_digest_71 rfl (by decide) rfl rfl ?_
    exact zw.sub [1, 2, 0] rfl K
  · have K := K.2 c
    refine zw_ldc2 n_X7_301 dX7_digest_51 rfl ?_
    refine zw_lload_n 1 dX7_digest_54 rfl rfl rfl ?_
    refine zw_lmul dX7_digest_55 rfl ?_
    refine zw_aload_n 0 dX7_digest_56 rfl rfl rfl ?_
    refine zw_iload_n 2 dX7_digest_57 rfl rfl rfl ?_
    obtain ⟨q1, ct, K⟩ := K
    refine zw_callV (n := 1) (As := [.int v3]) (rest := [.long ((31 : Int64) * w1)]) ct my_X7_countWith rfl rfl k_X7_309 i_X7_countWith s_X7_countWith zs_0 rfl dX7_digest_58 (by decide) (Nat.le_of_ble_eq_true rfl) (Nat.le_refl 0) (Nat.le_refl 0) rfl (fun r s1 h1 hq => ?_)
    obtain ⟨x1, rfl, rfl, hq⟩ := hq
    have K := K x1 h1 hq
    refine zw.st (st' := [.int x1, .long ((31 : Int64) * w1)]) rfl ?_
    refine zw_i2l dX7_digest_61 rfl ?_
    refine zw_ladd dX7_digest_62 rfl ?_
    refine zw_lstore_n dX7_digest_63 rfl (by decide) rfl rfl ?_
    refine zw_iinc (v := (v3 + (1 : Int32))) 2 dX7_digest_64 rfl rfl (by decide) rfl rfl ?_
    refine zw_goto (np := 45) dX7_digest_67 (by decide) ?_
    exact zw.sub [2, 1, 0] rfl K

set_option maxRecDepth 100000 in
set_option maxHeartbeats 4000000 in
theorem rX7_digest_72 {q : Int64 → zw_H → Prop} {h : zw_H} {v3 : Int32} {w1 : Int64} (K : (((8 : Int32) ≤ v3 → q w1 h) ∧ (¬ (8 : Int32) ≤ v3 → (∃ j1 : Nat, v3 = nI j1 ∧ j1 < 8 ∧ ((¬ (h.1 2 j1) = (-1 : Int32) → (∃ q2 : Int64 → zw_H → Prop, zcL 6 mX7_hashOfRegister [.ref 0, .long w1, .int v3] h q2 ∧ (∀ (x2 : Int64) (h2 : zw_H), q2 x2 h2 → zwL 7 mX7_digest q 72 [(0, .ref 0), (1, .long x2), (3, .int (v3 + (1 : Int32)))] [] h2))) ∧ ((h.1 2 j1) = (-1 : Int32) → zwL 7 mX7_digest q 72 [(0, .ref 0), (1, .long (((31 : Int64) * w1) + (-9 : Int64))), (3, .int (v3 + (1 : Int32)))] [] h)))))) : zwL 7 mX7_digest q 72 [(0, .ref 0), (1, .long w1), (3, .int v3)] [] h := by
  refine zw_iload_n 2 dX7_digest_72 rfl rfl rfl ?_
  refine zw_bipush (v := (8 : Int32)) dX7_digest_73 (by decide) rfl ?_
  refine zw_icmp_ge (tg := 116) dX7_digest_75 (by decide) rfl (fun c => ?_) (fun c => ?_)
  · have K := K.1 c
    refine zw_lload_n 1 dX7_digest_116 rfl rfl rfl ?_
    exact zw_lreturn dX7_digest_117 rfl (Nat.le_refl 0) (Nat.le_refl 0) ⟨_, rfl, rfl, K⟩
  · have K := K.2 c
    refine zw_aload_n 0 dX7_digest_78 rfl rfl rfl ?_
    refine zw_getR f_X7_10 dX7_digest_79 zs_0 rfl rfl ?_
    refine zw_getR f_X7_133 dX7_digest_82 zs_1 rfl rfl ?_
    refine zw_iload_n 2 dX7_digest_85 rfl rfl rfl ?_
    obtain ⟨j1, hj1, hn1, K⟩ := K
    refine zw_iald j1 dX7_digest_86 zs_2 ⟨hj1, hn1⟩ (by decide) rfl ?_
    refine zw_iconst (v := (-1 : Int32)) dX7_digest_87 (by decide) rfl ?_
    refine zw_icmp_ne (tg := 103) dX7_digest_88 (by decide) rfl (fun c => ?_) (fun c => ?_)
    · have K := K.1 c
      refine zw_aload_n 0 dX7_digest_103 rfl rfl rfl ?_
      refine zw_lload_n 1 dX7_digest_104 rfl rfl rfl ?_
      refine zw_iload_n 2 dX7_digest_105 rfl rfl rfl ?_
      obtain ⟨q2, ct, K⟩ := K
      refine zw_callV (n := 2) (As := [.long w1, .int v3]) (rest := []) ct my_X7_hashOfRegister rfl rfl k_X7_314 i_X7_hashOfRegister s_X7_hashOfRegister zs_0 rfl dX7_digest_106 (by decide) (Nat.le_of_ble_eq_true rfl) (Nat.le_refl 0) (Nat.le_refl 0) rfl (fun r s1 h2 hq => ?_)
      obtain ⟨x2, rfl, rfl, hq⟩ := hq
      have K := K x2 h2 hq
      refine zw.st (st' := [.long x2]) rfl ?_
      refine zw_lstore_n dX7_digest_109 rfl (by decide) rfl rfl ?_
      refine zw_iinc (v := (v3 + (1 : Int32))) 2 dX7_digest_110 rfl rfl (by decide) rfl rfl ?_
      refine zw_goto (np := 72) dX7_digest_113 (by decide) ?_
      exact zw.sub [2, 1, 0] rfl K
    · have K := K.2 c
      refine zw_ldc2 n_X7_301 dX7_digest_91 rfl ?_
      refine zw_lload_n 1 dX7_digest_94 rfl rfl rfl ?_
      refine zw_lmul dX7_digest_95 rfl ?_
      refine zw_ldc2 n_X7_312 dX7_digest_96 rfl ?_
      refine zw_ladd dX7_digest_99 rfl ?_
      refine zw_goto (np := 109) dX7_digest_100 (by decide) ?_
      refine zw_lstore_n dX7_digest_109 rfl (by decide) rfl rfl ?_
      refine zw_iinc (v := (v3 + (1 : Int32))) 2 dX7_digest_110 rfl rfl (by decide) rfl rfl ?_
      refine zw_goto (np := 72) dX7_digest_113 (by decide) ?_
      exact zw.sub [2, 1, 0] rfl K

set_option maxRecDepth 100000 in
set_option maxHeartbeats 4000000 in
theorem rX7_hashOfRegister_0 {q : Int64 → zw_H → Prop} {h : zw_H} {v3 : Int32} {w1 : Int64} (K : (∃ q1 : Int32 → zw_H → Prop, zcI 4 mX7_blocks [.ref 0, .int v3] h q1 ∧ (∀ (x1 : Int32) (h1 : zw_H), q1 x1 h1 → zwL 6 mX7_hashOfRegister q 17 [(0, .ref 0), (3, .int v3), (4, .long (((31 : Int64) * w1) + (Int32.toInt64 x1))), (6, .int (0 : Int32))] [] h1))) : zwL 6 mX7_hashOfRegister q 0 [(0, .ref 0), (1, .long w1), (3, .int v3)] [] h := by
  refine zw_ldc2 n_X7_301 dX7_hashOfRegister_0 rfl ?_
  refine zw_lload_n 1 dX7_hashOfRegister_3 rfl rfl rfl ?_
  refine zw_lmul dX7_hashOfRegister_4 rfl ?_
  refine zw_aload_n 0 dX7_hashOfRegister_5 rfl rfl rfl ?_
  refine zw_iload_n 2 dX7_hashOfRegister_6 rfl rfl rfl ?_
  obtain ⟨q1, ct, K⟩ := K
  refine zw_callV (n := 1) (As := [.int v3]) (rest := [.long ((31 : Int64) * w1)]) ct my_X7_blocks rfl rfl k_X7_318 i_X7_blocks s_X7_blocks zs_0 rfl dX7_hashOfRegister_7 (by decide) (Nat.le_of_ble_eq_true rfl) (Nat.le_refl 0) (Nat.le_refl 0) rfl (fun r s1 h1 hq => ?_)
  obtain ⟨x1, rfl, rfl, hq⟩ := hq
  have K := K x1 h1 hq
  refine zw.st (st' := [.int x1, .long ((31 : Int64) * w1)]) rfl ?_
  refine zw_i2l dX7_hashOfRegister_10 rfl ?_
  refine zw_ladd dX7_hashOfRegister_11 rfl ?_
  refine zw_lstore dX7_hashOfRegister_12 (by decide) rfl rfl ?_
  refine zw_iconst (v := (0 : Int32)) dX7_hashOfRegister_14 (by decide) rfl ?_
  refine zw_istore dX7_hashOfRegister_15 (by decide) rfl rfl ?_
  exact zw.sub [2, 4, 1, 0] rfl K

set_option maxRecDepth 100000 in
set_option maxHeartbeats 4000000 in
theorem rX7_hashOfRegister_17 {q : Int64 → zw_H → Prop} {h : zw_H} {v3 v6 : Int32} {w4 : Int64} (K : (((h.1 1 1) ≤ v6 → (∃ q1 : Int32 → zw_H → Prop, zcI 4 mX7_why [.ref 0, .int v3] h q1 ∧ (∀ (x1 : Int32) (h1 : zw_H), q1 x1 h1 → (∃ q2 : Int32 → zw_H → Prop, zcI 5 mX7_where [.ref 0, .int v3] h1 q2 ∧ (∀ (x2 : Int32) (h2 : zw_H), q2 x2 h2 → (∃ q3 : Int32 → zw_H → Prop, zcI 2 mX7_index [.ref 0, .int v3] h2 q3 ∧ (∀ (x3 : Int32) (h3 : zw_H), q3 x3 h3 → q (((31 : Int64) * (((31 : Int64) * (((31 : Int64) * w4) + (Int32.toInt64 x1))) + (Int32.toInt64 x2))) + (Int32.toInt64 x3)) h3))))))) ∧ (¬ (h.1 1 1) ≤ v6 → (∃ q4 : Int32 → zw_H → Prop, zcI 4 mX7_blockOf [.ref 0, .int v3, .int v6] h q4 ∧ (∀ (x4 : Int32) (h4 : zw_H), q4 x4 h4 → zwL 6 mX7_hashOfRegister q 17 [(0, .ref 0), (3, .int v3), (4, .long (((31 : Int64) * w4) + (Int32.toInt64 x4))), (6, .int (v6 + (1 : Int32)))] [] h4))))) : zwL 6 mX7_hashOfRegister q 17 [(0, .ref 0), (3, .int v3), (4, .long w4), (6, .int v6)] [] h := by
  refine zw_iload 3 dX7_hashOfRegister_17 rfl rfl ?_
  refine zw_aload_n 0 dX7_hashOfRegister_19 rfl rfl rfl ?_
  refine zw_getR f_X7_10 dX7_hashOfRegister_20 zs_0 rfl rfl ?_
  refine zw_getI f_X7_75 dX7_hashOfRegister_23 zs_1 rfl rfl ?_
  refine zw_icmp_ge (tg := 52) dX7_hashOfRegister_26 (by decide) rfl (fun c => ?_) (fun c => ?_)
  · have K := K.1 c
    refine zw_ldc2 n_X7_301 dX7_hashOfRegister_52 rfl ?_
    refine zw_lload 2 dX7_hashOfRegister_55 rfl rfl ?_
    refine zw_lmul dX7_hashOfRegister_57 rfl ?_
    refine zw_aload_n 0 dX7_hashOfRegister_58 rfl rfl rfl ?_
    refine zw_iload_n 1 dX7_hashOfRegister_59 rfl rfl rfl ?_
    obtain ⟨q1, ct, K⟩ := K
    refine zw_callV (n := 1) (As := [.int v3]) (rest := [.long ((31 : Int64) * w4)]) ct my_X7_why rfl rfl k_X7_205 i_X7_why s_X7_why zs_0 rfl dX7_hashOfRegister_60 (by decide) (Nat.le_of_ble_eq_true rfl) (Nat.le_refl 0) (Nat.le_refl 0) rfl (fun r s1 h1 hq => ?_)
    obtain ⟨x1, rfl, rfl, hq⟩ := hq
    have K := K x1 h1 hq
    refine zw.st (st' := [.int x1, .long ((31 : Int64) * w4)]) rfl ?_
    refine zw_i2l dX7_hashOfRegister_63 rfl ?_
    refine zw_ladd dX7_hashOfRegister_64 rfl ?_
    refine zw_lstore dX7_hashOfRegister_65 (by decide) rfl rfl ?_
    refine zw_ldc2 n_X7_301 dX7_hashOfRegister_67 rfl ?_
    refine zw_lload 0 dX7_hashOfRegister_70 rfl rfl ?_
    refine zw_lmul dX7_hashOfRegister_72 rfl ?_
    refine zw_aload_n 1 dX7_hashOfRegister_73 rfl rfl rfl ?_
    refine zw_iload_n 2 dX7_hashOfRegister_74 rfl rfl rfl ?_
    obtain ⟨q2, ct, K⟩ := K
    refine zw_callV (n := 1) (As := [.int v3]) (rest := [.long ((31 : Int64) * (((31 : Int64) * w4) + (Int32.toInt64 x1)))]) ct my_X7_where rfl rfl k_X7_324 i_X7_where s_X7_where zs_0 rfl dX7_hashOfRegister_75 (by decide) (Nat.le_of_ble_eq_true rfl) (Nat.le_refl 0) (Nat.le_refl 0) rfl (fun r s1 h2 hq => ?_)
    obtain ⟨x2, rfl, rfl, hq⟩ := hq
    have K := K x2 h2 hq
    refine zw.st (st' := [.int x2, .long ((31 : Int64) * (((31 : Int64) * w4) + (Int32.toInt64 x1)))]) rfl ?_
    refine zw_i2l dX7_hashOfRegister_78 rfl ?_
    refine zw_ladd dX7_hashOfRegister_79 rfl ?_
    refine zw_lstore dX7_hashOfRegister_80 (by decide) rfl rfl ?_
    refine zw_ldc2 n_X7_301 dX7_hashOfRegister_82 rfl ?_
    refine zw_lload 0 dX7_hashOfRegister_85 rfl rfl ?_
    refine zw_lmul dX7_hashOfRegister_87 rfl ?_
    refine zw_aload_n 1 dX7_hashOfRegister_88 rfl rfl rfl ?_
    refine zw_iload_n 2 dX7_hashOfRegister_89 rfl rfl rfl ?_
    obtain ⟨q3, ct, K⟩ := K
    refine zw_callV (n := 1) (As := [.int v3]) (rest := [.long ((31 : Int64) * (((31 : Int64) * (((31 : Int64) * w4) + (Int32.toInt64 x1))) + (Int32.toInt64 x2)))]) ct my_X7_index rfl rfl k_X7_327 i_X7_index s_X7_index zs_0 rfl dX7_hashOfRegister_90 (by decide) (Nat.le_of_ble_eq_true rfl) (Nat.le_refl 0) (Nat.le_refl 0) rfl (fun r s1 h3 hq => ?_)
    obtain ⟨x3, rfl, rfl, hq⟩ := hq
    have K := K x3 h3 hq
    refine zw.st (st' := [.int x3, .long ((31 : Int64) * (((31 : Int64) * (((31 : Int64) * w4) + (Int32.toInt64 x1))) + (Int32.toInt64 x2)))]) rfl ?_
    refine zw_i2l dX7_hashOfRegister_93 rfl ?_
    refine zw_ladd dX7_hashOfRegister_94 rfl ?_
    exact zw_lreturn dX7_hashOfRegister_95 rfl (Nat.le_refl 0) (Nat.le_refl 0) ⟨_, rfl, rfl, K⟩
  · have K := K.2 c
    refine zw_ldc2 n_X7_301 dX7_hashOfRegister_29 rfl ?_
    refine zw_lload 2 dX7_hashOfRegister_32 rfl rfl ?_
    refine zw_lmul dX7_hashOfRegister_34 rfl ?_
    refine zw_aload_n 0 dX7_hashOfRegister_35 rfl rfl rfl ?_
    refine zw_iload_n 1 dX7_hashOfRegister_36 rfl rfl rfl ?_
    refine zw_iload 3 dX7_hashOfRegister_37 rfl rfl ?_
    obtain ⟨q4, ct, K⟩ := K
    refine zw_callV (n := 2) (As := [.int v3, .int v6]) (rest := [.long ((31 : Int64) * w4)]) ct my_X7_blockOf rfl rfl k_X7_321 i_X7_blockOf s_X7_blockOf zs_0 rfl dX7_hashOfRegister_39 (by decide) (Nat.le_of_ble_eq_true rfl) (Nat.le_refl 0) (Nat.le_refl 0) rfl (fun r s1 h4 hq => ?_)
    obtain ⟨x4, rfl, rfl, hq⟩ := hq
    have K := K x4 h4 hq
    refine zw.st (st' := [.int x4, .long ((31 : Int64) * w4)]) rfl ?_
    refine zw_i2l dX7_hashOfRegister_42 rfl ?_
    refine zw_ladd dX7_hashOfRegister_43 rfl ?_
    refine zw_lstore dX7_hashOfRegister_44 (by decide) rfl rfl ?_
    refine zw_iinc (v := (v6 + (1 : Int32))) 3 dX7_hashOfRegister_46 rfl rfl (by decide) rfl rfl ?_
    refine zw_goto (np := 17) dX7_hashOfRegister_49 (by decide) ?_
    exact zw.sub [2, 3, 1, 0] rfl K

set_option maxRecDepth 100000 in
set_option maxHeartbeats 4000000 in
theorem rX7_isRegister_0 {q : Int32 → zw_H → Prop} {h : zw_H} {v0 : Int32} (K : ((v0 < 0 → q (0 : Int32) h) ∧ (¬ v0 < 0 → (((8 : Int32) ≤ v0 → q (0 : Int32) h) ∧ (¬ (8 : Int32) ≤ v0 → q (1 : Int32) h))))) : zwI 0 mX7_isRegister q 0 [(0, .int v0)] [] h := by
  refine zw_iload_n 0 dX7_isRegister_0 rfl rfl rfl ?_
  refine zw_if_lt (tg := 14) dX7_isRegister_1 (by decide) rfl (fun c => ?_) (fun c => ?_)
  · have K := K.1 c
    refine zw_iconst (v := (0 : Int32)) dX7_isRegister_14 (by decide) rfl ?_
    exact zw_ireturn (ty := .boolean) dX7_isRegister_15 rfl rfl (Nat.le_refl 0) (Nat.le_refl 0) ⟨_, rfl, rfl, K⟩
  · have K := K.2 c
    refine zw_iload_n 0 dX7_isRegister_4 rfl rfl rfl ?_
    refine zw_bipush (v := (8 : Int32)) dX7_isRegister_5 (by decide) rfl ?_
    refine zw_icmp_ge (tg := 14) dX7_isRegister_7 (by decide) rfl (fun c => ?_) (fun c => ?_)
    · have K := K.1 c
      refine zw_iconst (v := (0 : Int32)) dX7_isRegister_14 (by decide) rfl ?_
      exact zw_ireturn (ty := .boolean) dX7_isRegister_15 rfl rfl (Nat.le_refl 0) (Nat.le_refl 0) ⟨_, rfl, rfl, K⟩
    · have K := K.2 c
      refine zw_iconst (v := (1 : Int32)) dX7_isRegister_10 (by decide) rfl ?_
      refine zw_goto (np := 15) dX7_isRegister_11 (by decide) ?_
      exact zw_ireturn (ty := .boolean) dX7_isRegister_15 rfl rfl (Nat.le_refl 0) (Nat.le_refl 0) ⟨_, rfl, rfl, K⟩

set_option maxRecDepth 100000 in
set_option maxHeartbeats 4000000 in
theorem rX7_isElement_0 {q : Int32 → zw_H → Prop} {h : zw_H} {v1 : Int32} (K : ((v1 < 0 → q (0 : Int32) h) ∧ (¬ v1 < 0 → (((h.1 1 1) ≤ v1 → q (0 : Int32) h) ∧ (¬ (h.1 1 1) ≤ v1 → q (1 : Int32) h))))) : zwI 0 mX7_isElement q 0 [(0, .ref 0), (1, .int v1)] [] h := by
  refine zw_iload_n 1 dX7_isElement_0 rfl rfl rfl ?_
  refine zw_if_lt (tg := 19) dX7_isElement_1 (by decide) rfl (fun c => ?_) (fun c => ?_)
  · have K := K.1 c
    refine zw_iconst (v := (0 : Int32)) dX7_isElement_19 (by decide) rfl ?_
    exact zw_ireturn (ty := .boolean) dX7_isElement_20 rfl rfl (Nat.le_refl 0) (Nat.le_refl 0) ⟨_, rfl, rfl, K⟩
  · have K := K.2 c
    refine zw_iload_n 1 dX7_isElement_4 rfl rfl rfl ?_
    refine zw_aload_n 0 dX7_isElement_5 rfl rfl rfl ?_
    refine zw_getR f_X7_10 dX7_isElement_6 zs_0 rfl rfl ?_
    refine zw_getI f_X7_75 dX7_isElement_9 zs_1 rfl rfl ?_
    refine zw_icmp_ge (tg := 19) dX7_isElement_12 (by decide) rfl (fun c => ?_) (fun c => ?_)
    · have K := K.1 c
      refine zw_iconst (v := (0 : Int32)) dX7_isElement_19 (by decide) rfl ?_
      exact zw_ireturn (ty := .boolean) dX7_isElement_20 rfl rfl (Nat.le_refl 0) (Nat.le_refl 0) ⟨_, rfl, rfl, K⟩
    · have K := K.2 c
      refine zw_iconst (v := (1 : Int32)) dX7_isElement_15 (by decide) rfl ?_
      refine zw_goto (np := 20) dX7_isElement_16 (by decide) ?_
      exact zw_ireturn (ty := .boolean) dX7_isElement_20 rfl rfl (Nat.le_refl 0) (Nat.le_refl 0) ⟨_, rfl, rfl, K⟩

set_option maxRecDepth 100000 in
set_option maxHeartbeats 4000000 in
theorem rX7_isBase_0 {q : Int32 → zw_H → Prop} {h : zw_H} {v0 : Int32} (K : ((v0 < (-9 : Int32) → q (0 : Int32) h) ∧ (¬ v0 < (-9 : Int32) → (((9 : Int32) < v0 → q (0 : Int32) h) ∧ (¬ (9 : Int32) < v0 → q (1 : Int32) h))))) : zwI 0 mX7_isBase q 0 [(0, .int v0)] [] h := by
  refine zw_iload_n 0 dX7_isBase_0 rfl rfl rfl ?_
  refine zw_bipush (v := (-9 : Int32)) dX7_isBase_1 (by decide) rfl ?_
  refine zw_icmp_lt (tg := 16) dX7_isBase_3 (by decide) rfl (fun c => ?_) (fun c => ?_)
  · have K := K.1 c
    refine zw_iconst (v := (0 : Int32)) dX7_isBase_16 (by decide) rfl ?_
    exact zw_ireturn (ty := .boolean) dX7_isBase_17 rfl rfl (Nat.le_refl 0) (Nat.le_refl 0) ⟨_, rfl, rfl, K⟩
  · have K := K.2 c
    refine zw_iload_n 0 dX7_isBase_6 rfl rfl rfl ?_
    refine zw_bipush (v := (9 : Int32)) dX7_isBase_7 (by decide) rfl ?_
    refine zw_icmp_gt (tg := 16) dX7_isBase_9 (by decide) rfl (fun c => ?_) (fun c => ?_)
    · have K := K.1 c
      refine zw_iconst (v := (0 : Int32)) dX7_isBase_16 (by decide) rfl ?_
      exact zw_ireturn (ty := .boolean) dX7_isBase_17 rfl rfl (Nat.le_refl 0) (Nat.le_refl 0) ⟨_, rfl, rfl, K⟩
    · have K := K.2 c
      refine zw_iconst (v := (1 : Int32)) dX7_isBase_12 (by decide) rfl ?_
      refine zw_goto (np := 17) dX7_isBase_13 (by decide) ?_
      exact zw_ireturn (ty := .boolean) dX7_isBase_17 rfl rfl (Nat.le_refl 0) (Nat.le_refl 0) ⟨_, rfl, rfl, K⟩

set_option maxRecDepth 100000 in
set_option maxHeartbeats 4000000 in
theorem rX7_faultOf_0 {q : Int32 → zw_H → Prop} {h : zw_H} {v1 v2 v3 : Int32} (K : ((v3 = 0 → q (-1 : Int32) h) ∧ (¬ v3 = 0 → (∃ q1 : Int32 → zw_H → Prop, zcI 0 mX7_isRegister [.int v1] h q1 ∧ (∀ (x1 : Int32) (h1 : zw_H), q1 x1 h1 → ((x1 = 0 → q (-1 : Int32) h1) ∧ (¬ x1 = 0 → (∃ q2 : Int32 → zw_H → Prop, zcI 0 mX7_isRegister [.int v2] h1 q2 ∧ (∀ (x2 : Int32) (h2 : zw_H), q2 x2 h2 → ((¬ x2 = 0 → (∃ j3 : Nat, v1 = nI j3 ∧ j3 < 8 ∧ (((h2.1 2 j3) = (-1 : Int32) → q (-2 : Int32) h2) ∧ (¬ (h2.1 2 j3) = (-1 : Int32) → (∃ j4 : Nat, v2 = nI j4 ∧ j4 < 8 ∧ ((¬ (h2.1 2 j4) = (-1 : Int32) → q (0 : Int32) h2) ∧ ((h2.1 2 j4) = (-1 : Int32) → q (-2 : Int32) h2))))))) ∧ (x2 = 0 → q (-1 : Int32) h2))))))))))) : zwI 1 mX7_faultOf q 0 [(0, .ref 0), (1, .int v1), (2, .int v2), (3, .int v3)] [] h := by
  refine zw_iload_n 3 dX7_faultOf_0 rfl rfl rfl ?_
  refine zw_if_eq (tg := 18) dX7_faultOf_1 (by decide) rfl (fun c => ?_) (fun c => ?_)
  · have K := K.1 c
    refine zw_iconst (v := (-1 : Int32)) dX7_faultOf_18 (by decide) rfl ?_
    exact zw_ireturn (ty := .int) dX7_faultOf_19 rfl rfl (Nat.le_refl 0) (Nat.le_refl 0) ⟨_, rfl, rfl, K⟩
  · have K := K.2 c
    refine zw_iload_n 1 dX7_faultOf_4 rfl rfl rfl ?_
    obtain ⟨q1, ct, K⟩ := K
    refine zw_callS (n := 1) (As := [.int v1]) (rest := []) ct my_X7_isRegister rfl rfl k_X7_117 t_X7_isRegister dX7_faultOf_5 (by decide) (Nat.le_of_ble_eq_true rfl) (Nat.le_refl 0) (Nat.le_refl 0) rfl (fun r s1 h1 hq => ?_)
    obtain ⟨x1, rfl, rfl, hq⟩ := hq
    have K := K x1 h1 hq
    refine zw.st (st' := [.int x1]) rfl ?_
    refine zw_if_eq (tg := 18) dX7_faultOf_8 (by decide) rfl (fun c => ?_) (fun c => ?_)
    · have K := K.1 c
      refine zw_iconst (v := (-1 : Int32)) dX7_faultOf_18 (by decide) rfl ?_
      exact zw_ireturn (ty := .int) dX7_faultOf_19 rfl rfl (Nat.le_refl 0) (Nat.le_refl 0) ⟨_, rfl, rfl, K⟩
    · have K := K.2 c
      refine zw_iload_n 2 dX7_faultOf_11 rfl rfl rfl ?_
      obtain ⟨q2, ct, K⟩ := K
      refine zw_callS (n := 1) (As := [.int v2]) (rest := []) ct my_X7_isRegister rfl rfl k_X7_117 t_X7_isRegister dX7_faultOf_12 (by decide) (Nat.le_of_ble_eq_true rfl) (Nat.le_refl 0) (Nat.le_refl 0) rfl (fun r s1 h2 hq => ?_)
      obtain ⟨x2, rfl, rfl, hq⟩ := hq
      have K := K x2 h2 hq
      refine zw.st (st' := [.int x2]) rfl ?_
      refine zw_if_ne (tg := 20) dX7_faultOf_15 (by decide) rfl (fun c => ?_) (fun c => ?_)
      · have K := K.1 c
        refine zw_aload_n 0 dX7_faultOf_20 rfl rfl rfl ?_
        refine zw_getR f_X7_10 dX7_faultOf_21 zs_0 rfl rfl ?_
        refine zw_getR f_X7_133 dX7_faultOf_24 zs_1 rfl rfl ?_
        refine zw_iload_n 1 dX7_faultOf_27 rfl rfl rfl ?_
        obtain ⟨j3, hj3, hn3, K⟩ := K
        refine zw_iald j3 dX7_faultOf_28 zs_2 ⟨hj3, hn3⟩ (by decide) rfl ?_
        refine zw_iconst (v := (-1 : Int32)) dX7_faultOf_29 (by decide) rfl ?_
        refine zw_icmp_eq (tg := 46) dX7_faultOf_30 (by decide) rfl (fun c => ?_) (fun c => ?_)
        · have K := K.1 c
          refine zw_bipush (v := (-2 : Int32)) dX7_faultOf_46 (by decide) rfl ?_
          refine zw_goto (np := 52) dX7_faultOf_48 (by decide) ?_
          exact zw_ireturn (ty := .int) dX7_faultOf_52 rfl rfl (Nat.le_refl 0) (Nat.le_refl 0) ⟨_, rfl, rfl, K⟩
        · have K := K.2 c
          refine zw_aload_n 0 dX7_faultOf_33 rfl rfl rfl ?_
          refine zw_getR f_X7_10 dX7_faultOf_34 zs_0 rfl rfl ?_
          refine zw_getR f_X7_133 dX7_faultOf_37 zs_1 rfl rfl ?_
          refine zw_iload_n 2 dX7_faultOf_40 rfl rfl rfl ?_
          obtain ⟨j4, hj4, hn4, K⟩ := K
          refine zw_iald j4 dX7_faultOf_41 zs_2 ⟨hj4, hn4⟩ (by decide) rfl ?_
          refine zw_iconst (v := (-1 : Int32)) dX7_faultOf_42 (by decide) rfl ?_
          refine zw_icmp_ne (tg := 51) dX7_faultOf_43 (by decide) rfl (fun c => ?_) (fun c => ?_)
          · have K := K.1 c
            refine zw_iconst (v := (0 : Int32)) dX7_faultOf_51 (by decide) rfl ?_
            exact zw_ireturn (ty := .int) dX7_faultOf_52 rfl rfl (Nat.le_refl 0) (Nat.le_refl 0) ⟨_, rfl, rfl, K⟩
          · have K := K.2 c
            refine zw_bipush (v := (-2 : Int32)) dX7_faultOf_46 (by decide) rfl ?_
            refine zw_goto (np := 52) dX7_faultOf_48 (by decide) ?_
            exact zw_ireturn (ty := .int) dX7_faultOf_52 rfl rfl (Nat.le_refl 0) (Nat.le_refl 0) ⟨_, rfl, rfl, K⟩
      · have K := K.2 c
        refine zw_iconst (v := (-1 : Int32)) dX7_faultOf_18 (by decide) rfl ?_
        exact zw_ireturn (ty := .int) dX7_faultOf_19 rfl rfl (Nat.le_refl 0) (Nat.le_refl 0) ⟨_, rfl, rfl, K⟩

set_option maxRecDepth 100000 in
set_option maxHeartbeats 4000000 in
theorem rX7_faultOfAdmitted_0 {q : Int32 → zw_H → Prop} {h : zw_H} {v1 v2 v3 : Int32} (K : (∃ q1 : Int32 → zw_H → Prop, zcI 1 mX7_faultOf [.ref 0, .int v1, .int v2, .int v3] h q1 ∧ (∀ (x1 : Int32) (h1 : zw_H), q1 x1 h1 → ((x1 = 0 → (∃ j2 : Nat, v1 = nI j2 ∧ j2 < 8 ∧ (∃ q3 : Int32 → zw_H → Prop, zcI 0 mX2_find [.ref 37, .int (h1.1 2 j2)] h1 q3 ∧ (∀ (x3 : Int32) (h3 : zw_H), q3 x3 h3 → ((x3 = (-9 : Int32) → (((0 : Int32) = 0 → q (-3 : Int32) h3) ∧ (¬ (0 : Int32) = 0 → q (0 : Int32) h3))) ∧ (¬ x3 = (-9 : Int32) → (∃ j4 : Nat, v2 = nI j4 ∧ j4 < 8 ∧ (∃ q5 : Int32 → zw_H → Prop, zcI 0 mX2_find [.ref 37, .int (h3.1 2 j4)] h3 q5 ∧ (∀ (x5 : Int32) (h5 : zw_H), q5 x5 h5 → ((x5 = (-9 : Int32) → (((0 : Int32) = 0 → q (-3 : Int32) h5) ∧ (¬ (0 : Int32) = 0 → q (0 : Int32) h5))) ∧ (¬ x5 = (-9 : Int32) → (((1 : Int32) = 0 → q (-3 : Int32) h5) ∧ (¬ (1 : Int32) = 0 → q (0 : Int32) h5))))))))))))) ∧ (¬ x1 = 0 → q x1 h1))))) : zwI 2 mX7_faultOfAdmitted q 0 [(0, .ref 0), (1, .int v1), (2, .int v2), (3, .int v3)] [] h := by
  refine zw_aload_n 0 dX7_faultOfAdmitted_0 rfl rfl rfl ?_
  refine zw_iload_n 1 dX7_faultOfAdmitted_1 rfl rfl rfl ?_
  refine zw_iload_n 2 dX7_faultOfAdmitted_2 rfl rfl rfl ?_
  refine zw_iload_n 3 dX7_faultOfAdmitted_3 rfl rfl rfl ?_
  obtain ⟨q1, ct, K⟩ := K
  refine zw_callV (n := 3) (As := [.int v1, .int v2, .int v3]) (rest := []) ct my_X7_faultOf rfl rfl k_X7_130 i_X7_faultOf s_X7_faultOf zs_0 rfl dX7_faultOfAdmitted_4 (by decide) (Nat.le_of_ble_eq_true rfl) (Nat.le_refl 0) (Nat.le_refl 0) rfl (fun r s1 h1 hq => ?_)
  obtain ⟨x1, rfl, rfl, hq⟩ := hq
  have K := K x1 h1 hq
  refine zw.st (st' := [.int x1]) rfl ?_
  refine zw_istore dX7_faultOfAdmitted_7 (by decide) rfl rfl ?_
  refine zw_iload 0 dX7_faultOfAdmitted_9 rfl rfl ?_
  refine zw_if_eq (tg := 17) dX7_faultOfAdmitted_11 (by decide) rfl (fun c => ?_) (fun c => ?_)
  · have K := K.1 c
    refine zw_aload_n 1 dX7_faultOfAdmitted_17 rfl rfl rfl ?_
    refine zw_getR f_X7_40 dX7_faultOfAdmitted_18 zs_0 rfl rfl ?_
    refine zw_aload_n 1 dX7_faultOfAdmitted_21 rfl rfl rfl ?_
    refine zw_getR f_X7_10 dX7_faultOfAdmitted_22 zs_0 rfl rfl ?_
    refine zw_getR f_X7_133 dX7_faultOfAdmitted_25 zs_1 rfl rfl ?_
    refine zw_iload_n 2 dX7_faultOfAdmitted_28 rfl rfl rfl ?_
    obtain ⟨j2, hj2, hn2, K⟩ := K
    refine zw_iald j2 dX7_faultOfAdmitted_29 zs_2 ⟨hj2, hn2⟩ (by decide) rfl ?_
    obtain ⟨q3, ct, K⟩ := K
    refine zw_callV (n := 1) (As := [.int (h1.1 2 j2)]) (rest := []) ct my_X2_find rfl rfl k_X7_195 i_X2_find s_X2_find zs_37 rfl dX7_faultOfAdmitted_30 (by decide) (Nat.le_of_ble_eq_true rfl) (Nat.le_refl 0) (Nat.le_refl 0) rfl (fun r s1 h3 hq => ?_)
    obtain ⟨x3, rfl, rfl, hq⟩ := hq
    have K := K x3 h3 hq
    refine zw.st (st' := [.int x3]) rfl ?_
    refine zw_bipush (v := (-9 : Int32)) dX7_faultOfAdmitted_33 (by decide) rfl ?_
    refine zw_icmp_eq (tg := 63) dX7_faultOfAdmitted_35 (by decide) rfl (fun c => ?_) (fun c => ?_)
    · have K := K.1 c
      refine zw_iconst (v := (0 : Int32)) dX7_faultOfAdmitted_63 (by decide) rfl ?_
      refine zw_istore dX7_faultOfAdmitted_64 (by decide) rfl rfl ?_
      refine zw_iload 0 dX7_faultOfAdmitted_66 rfl rfl ?_
      refine zw_if_eq (tg := 75) dX7_faultOfAdmitted_68 (by decide) rfl (fun c => ?_) (fun c => ?_)
      · have K := K.1 c
        refine zw_bipush (v := (-3 : Int32)) dX7_faultOfAdmitted_75 (by decide) rfl ?_
        exact zw_ireturn (ty := .int) dX7_faultOfAdmitted_77 rfl rfl (Nat.le_refl 0) (Nat.le_refl 0) ⟨_, rfl, rfl, K⟩
      · have K := K.2 c
        refine zw_iconst (v := (0 : Int32)) dX7_faultOfAdmitted_71 (by decide) rfl ?_
        refine zw_goto (np := 77) dX7_faultOfAdmitted_72 (by decide) ?_
        exact zw_ireturn (ty := .int) dX7_faultOfAdmitted_77 rfl rfl (Nat.le_refl 0) (Nat.le_refl 0) ⟨_, rfl, rfl, K⟩
    · have K := K.2 c
      refine zw_aload_n 1 dX7_faultOfAdmitted_38 rfl rfl rfl ?_
      refine zw_getR f_X7_40 dX7_faultOfAdmitted_39 zs_0 rfl rfl ?_
      refine zw_aload_n 1 dX7_faultOfAdmitted_42 rfl rfl rfl ?_
      refine zw_getR f_X7_10 dX7_faultOfAdmitted_43 zs_0 rfl rfl ?_
      refine zw_getR f_X7_133 dX7_faultOfAdmitted_46 zs_1 rfl rfl ?_
      refine zw_iload_n 3 dX7_faultOfAdmitted_49 rfl rfl rfl ?_
      obtain ⟨j4, hj4, hn4, K⟩ := K
      refine zw_iald j4 dX7_faultOfAdmitted_50 zs_2 ⟨hj4, hn4⟩ (by decide) rfl ?_
      obtain ⟨q5, ct, K⟩ := K
      refine zw_callV (n := 1) (As := [.int (h3.1 2 j4)]) (rest := []) ct my_X2_find rfl rfl k_X7_195 i_X2_find s_X2_find zs_37 rfl dX7_faultOfAdmitted_51 (by decide) (Nat.le_of_ble_eq_true rfl) (Nat.le_refl 0) (Nat.le_refl 0) rfl (fun r s1 h5 hq => ?_)
      obtain ⟨x5, rfl, rfl, hq⟩ := hq
      have K := K x5 h5 hq
      refine zw.st (st' := [.int x5]) rfl ?_
      refine zw_bipush (v := (-9 : Int32)) dX7_faultOfAdmitted_54 (by decide) rfl ?_
      refine zw_icmp_eq (tg := 63) dX7_faultOfAdmitted_56 (by decide) rfl (fun c => ?_) (fun c => ?_)
      · have K := K.1 c
        refine zw_iconst (v := (0 : Int32)) dX7_faultOfAdmitted_63 (by decide) rfl ?_
        refine zw_istore dX7_faultOfAdmitted_64 (by decide) rfl rfl ?_
        refine zw_iload 0 dX7_faultOfAdmitted_66 rfl rfl ?_
        refine zw_if_eq (tg := 75) dX7_faultOfAdmitted_68 (by decide) rfl (fun c => ?_) (fun c => ?_)
        · have K := K.1 c
          refine zw_bipush (v := (-3 : Int32)) dX7_faultOfAdmitted_75 (by decide) rfl ?_
          exact zw_ireturn (ty := .int) dX7_faultOfAdmitted_77 rfl rfl (Nat.le_refl 0) (Nat.le_refl 0) ⟨_, rfl, rfl, K⟩
        · have K := K.2 c
          refine zw_iconst (v := (0 : Int32)) dX7_faultOfAdmitted_71 (by decide) rfl ?_
          refine zw_goto (np := 77) dX7_faultOfAdmitted_72 (by decide) ?_
          exact zw_ireturn (ty := .int) dX7_faultOfAdmitted_77 rfl rfl (Nat.le_refl 0) (Nat.le_refl 0) ⟨_, rfl, rfl, K⟩
      · have K := K.2 c
        refine zw_iconst (v := (1 : Int32)) dX7_faultOfAdmitted_59 (by decide) rfl ?_
        refine zw_goto (np := 64) dX7_faultOfAdmitted_60 (by decide) ?_
        refine zw_istore dX7_faultOfAdmitted_64 (by decide) rfl rfl ?_
        refine zw_iload 0 dX7_faultOfAdmitted_66 rfl rfl ?_
        refine zw_if_eq (tg := 75) dX7_faultOfAdmitted_68 (by decide) rfl (fun c => ?_) (fun c => ?_)
        · have K := K.1 c
          refine zw_bipush (v := (-3 : Int32)) dX7_faultOfAdmitted_75 (by decide) rfl ?_
          exact zw_ireturn (ty := .int) dX7_faultOfAdmitted_77 rfl rfl (Nat.le_refl 0) (Nat.le_refl 0) ⟨_, rfl, rfl, K⟩
        · have K := K.2 c
          refine zw_iconst (v := (0 : Int32)) dX7_faultOfAdmitted_71 (by decide) rfl ?_
          refine zw_goto (np := 77) dX7_faultOfAdmitted_72 (by decide) ?_
          exact zw_ireturn (ty := .int) dX7_faultOfAdmitted_77 rfl rfl (Nat.le_refl 0) (Nat.le_refl 0) ⟨_, rfl, rfl, K⟩
  · have K := K.2 c
    refine zw_iload 0 dX7_faultOfAdmitted_14 rfl rfl ?_
    exact zw_ireturn (ty := .int) dX7_faultOfAdmitted_16 rfl rfl (Nat.le_refl 0) (Nat.le_refl 0) ⟨_, rfl, rfl, K⟩

set_option maxRecDepth 100000 in
set_option maxHeartbeats 4000000 in
theorem rX7_refresh_0 {q : zw_H → Prop} {h : zw_H} (K : (∃ q1 : zw_H → Prop, zcV 4 mX0_fill [.ref 27, .int (h.1 1 1)] h q1 ∧ (∀ h1 : zw_H, q1 h1 → (∃ q2 : zw_H → Prop, zcV 1 mX2_select [.ref 37, .ref 27, .ref 1] h1 q2 ∧ (∀ h2 : zw_H, q2 h2 → q h2))))) : zwV 5 mX7_refresh q 0 [(0, .ref 0)] [] h := by
  refine zw_aload_n 0 dX7_refresh_0 rfl rfl rfl ?_
  refine zw_getR f_X7_33 dX7_refresh_1 zs_0 rfl rfl ?_
  refine zw_aload_n 0 dX7_refresh_4 rfl rfl rfl ?_
  refine zw_getR f_X7_10 dX7_refresh_5 zs_0 rfl rfl ?_
  refine zw_getI f_X7_75 dX7_refresh_8 zs_1 rfl rfl ?_
  obtain ⟨q1, ct, K⟩ := K
  refine zw_callV (n := 1) (As := [.int (h.1 1 1)]) (rest := []) ct my_X0_fill rfl rfl k_X7_330 i_X0_fill s_X0_fill zs_27 rfl dX7_refresh_11 (by decide) (Nat.le_of_ble_eq_true rfl) (Nat.le_refl 0) (Nat.le_refl 0) rfl (fun r s1 h1 hq => ?_)
  obtain ⟨rfl, rfl, hq⟩ := hq
  have K := K h1 hq
  refine zw.st (st' := []) rfl ?_
  refine zw_aload_n 0 dX7_refresh_14 rfl rfl rfl ?_
  refine zw_getR f_X7_40 dX7_refresh_15 zs_0 rfl rfl ?_
  refine zw_aload_n 0 dX7_refresh_18 rfl rfl rfl ?_
  refine zw_getR f_X7_33 dX7_refresh_19 zs_0 rfl rfl ?_
  refine zw_aload_n 0 dX7_refresh_22 rfl rfl rfl ?_
  refine zw_getR f_X7_10 dX7_refresh_23 zs_0 rfl rfl ?_
  obtain ⟨q2, ct, K⟩ := K
  refine zw_callV (n := 2) (As := [.ref 27, .ref 1]) (rest := []) ct my_X2_select rfl rfl k_X7_333 i_X2_select s_X2_select zs_37 rfl dX7_refresh_26 (by decide) (Nat.le_of_ble_eq_true rfl) (Nat.le_refl 0) (Nat.le_refl 0) rfl (fun r s1 h2 hq => ?_)
  obtain ⟨rfl, rfl, hq⟩ := hq
  have K := K h2 hq
  refine zw.st (st' := []) rfl ?_
  exact zw_return dX7_refresh_29 rfl (Nat.le_refl 0) (Nat.le_refl 0) ⟨rfl, rfl, K⟩

set_option maxRecDepth 100000 in
set_option maxHeartbeats 4000000 in
theorem rX7_put_0 {q : Int32 → zw_H → Prop} {h : zw_H} {v1 v2 : Int32} (K : (∃ q1 : zw_H → Prop, zcV 1 mX1_remember [.ref 3, .ref 1] h q1 ∧ (∀ h1 : zw_H, q1 h1 → (∃ j2 : Nat, v1 = nI j2 ∧ j2 < 8 ∧ ∀ h3 : zw_H, h3 = zw_sI h1 2 j2 v2 → (∃ q4 : Int32 → zw_H → Prop, zcI 3 mX7_blockCountOf [.ref 0, .int v2] h3 q4 ∧ (∀ (x4 : Int32) (h4 : zw_H), q4 x4 h4 → q x4 h4)))))) : zwI 4 mX7_put q 0 [(0, .ref 0), (1, .int v1), (2, .int v2)] [] h := by
  refine zw_aload_n 0 dX7_put_0 rfl rfl rfl ?_
  refine zw_getR f_X7_19 dX7_put_1 zs_0 rfl rfl ?_
  refine zw_aload_n 0 dX7_put_4 rfl rfl rfl ?_
  refine zw_getR f_X7_10 dX7_put_5 zs_0 rfl rfl ?_
  obtain ⟨q1, ct, K⟩ := K
  refine zw_callV (n := 1) (As := [.ref 1]) (rest := []) ct my_X1_remember rfl rfl k_X7_79 i_X1_remember s_X1_remember zs_3 rfl dX7_put_8 (by decide) (Nat.le_of_ble_eq_true rfl) (Nat.le_refl 0) (Nat.le_refl 0) rfl (fun r s1 h1 hq => ?_)
  obtain ⟨rfl, rfl, hq⟩ := hq
  have K := K h1 hq
  refine zw.st (st' := []) rfl ?_
  refine zw_aload_n 0 dX7_put_11 rfl rfl rfl ?_
  refine zw_getR f_X7_10 dX7_put_12 zs_0 rfl rfl ?_
  refine zw_getR f_X7_133 dX7_put_15 zs_1 rfl rfl ?_
  refine zw_iload_n 1 dX7_put_18 rfl rfl rfl ?_
  refine zw_iload_n 2 dX7_put_19 rfl rfl rfl ?_
  obtain ⟨j2, hj2, hn2, K⟩ := K
  refine zw_iast j2 dX7_put_20 zs_2 ⟨hj2, hn2⟩ (by decide) rfl ?_
  generalize e3 : zw_sI h1 2 j2 v2 = h3
  have K := K h3 e3.symm
  refine zw_aload_n 0 dX7_put_21 rfl rfl rfl ?_
  refine zw_iload_n 2 dX7_put_22 rfl rfl rfl ?_
  obtain ⟨q4, ct, K⟩ := K
  refine zw_callV (n := 1) (As := [.int v2]) (rest := []) ct my_X7_blockCountOf rfl rfl k_X7_177 i_X7_blockCountOf s_X7_blockCountOf zs_0 rfl dX7_put_23 (by decide) (Nat.le_of_ble_eq_true rfl) (Nat.le_refl 0) (Nat.le_refl 0) rfl (fun r s1 h4 hq => ?_)
  obtain ⟨x4, rfl, rfl, hq⟩ := hq
  have K := K x4 h4 hq
  refine zw.st (st' := [.int x4]) rfl ?_
  exact zw_ireturn (ty := .int) dX7_put_26 rfl rfl (Nat.le_refl 0) (Nat.le_refl 0) ⟨_, rfl, rfl, K⟩

set_option maxRecDepth 100000 in
set_option maxHeartbeats 4000000 in
theorem rX7_stepTo_0 {q : Int32 → zw_H → Prop} {h : zw_H} {v1 v2 : Int32} (K : (∃ q1 : zw_H → Prop, zcV 1 mX1_remember [.ref 3, .ref 1] h q1 ∧ (∀ h1 : zw_H, q1 h1 → (∃ q2 : Int32 → zw_H → Prop, zcI 0 mX2_has [.ref 37, .int v2] h1 q2 ∧ (∀ (x2 : Int32) (h2 : zw_H), q2 x2 h2 → ((¬ x2 = 0 → (∃ j3 : Nat, v2 = nI j3 ∧ j3 < 203 ∧ (∃ j4 : Nat, v1 = nI j4 ∧ j4 < 8 ∧ ∀ h5 : zw_H, h5 = zw_sI h2 2 j4 (h2.1 38 j3) → q v2 h5))) ∧ (x2 = 0 → q (-9 : Int32) h2))))))) : zwI 2 mX7_stepTo q 0 [(0, .ref 0), (1, .int v1), (2, .int v2)] [] h := by
  refine zw_aload_n 0 dX7_stepTo_0 rfl rfl rfl ?_
  refine zw_getR f_X7_19 dX7_stepTo_1 zs_0 rfl rfl ?_
  refine zw_aload_n 0 dX7_stepTo_4 rfl rfl rfl ?_
  refine zw_getR f_X7_10 dX7_stepTo_5 zs_0 rfl rfl ?_
  obtain ⟨q1, ct, K⟩ := K
  refine zw_callV (n := 1) (As := [.ref 1]) (rest := []) ct my_X1_remember rfl rfl k_X7_79 i_X1_remember s_X1_remember zs_3 rfl dX7_stepTo_8 (by decide) (Nat.le_of_ble_eq_true rfl) (Nat.le_refl 0) (Nat.le_refl 0) rfl (fun r s1 h1 hq => ?_)
  obtain ⟨rfl, rfl, hq⟩ := hq
  have K := K h1 hq
  refine zw.st (st' := []) rfl ?_
  refine zw_aload_n 0 dX7_stepTo_11 rfl rfl rfl ?_
  refine zw_getR f_X7_40 dX7_stepTo_12 zs_0 rfl rfl ?_
  refine zw_iload_n 2 dX7_stepTo_15 rfl rfl rfl ?_
  obtain ⟨q2, ct, K⟩ := K
  refine zw_callV (n := 1) (As := [.int v2]) (rest := []) ct my_X2_has rfl rfl k_X7_155 i_X2_has s_X2_has zs_37 rfl dX7_stepTo_16 (by decide) (Nat.le_of_ble_eq_true rfl) (Nat.le_refl 0) (Nat.le_refl 0) rfl (fun r s1 h2 hq => ?_)
  obtain ⟨x2, rfl, rfl, hq⟩ := hq
  have K := K x2 h2 hq
  refine zw.st (st' := [.int x2]) rfl ?_
  refine zw_if_ne (tg := 25) dX7_stepTo_19 (by decide) rfl (fun c => ?_) (fun c => ?_)
  · have K := K.1 c
    refine zw_aload_n 0 dX7_stepTo_25 rfl rfl rfl ?_
    refine zw_getR f_X7_10 dX7_stepTo_26 zs_0 rfl rfl ?_
    refine zw_getR f_X7_133 dX7_stepTo_29 zs_1 rfl rfl ?_
    refine zw_iload_n 1 dX7_stepTo_32 rfl rfl rfl ?_
    refine zw_aload_n 0 dX7_stepTo_33 rfl rfl rfl ?_
    refine zw_getR f_X7_40 dX7_stepTo_34 zs_0 rfl rfl ?_
    refine zw_getR f_X7_158 dX7_stepTo_37 zs_37 rfl rfl ?_
    refine zw_iload_n 2 dX7_stepTo_40 rfl rfl rfl ?_
    obtain ⟨j3, hj3, hn3, K⟩ := K
    refine zw_iald j3 dX7_stepTo_41 zs_38 ⟨hj3, hn3⟩ (by decide) rfl ?_
    obtain ⟨j4, hj4, hn4, K⟩ := K
    refine zw_iast j4 dX7_stepTo_42 zs_2 ⟨hj4, hn4⟩ (by decide) rfl ?_
    generalize e5 : zw_sI h2 2 j4 (h2.1 38 j3) = h5
    have K := K h5 e5.symm
    refine zw_iload_n 2 dX7_stepTo_43 rfl rfl rfl ?_
    exact zw_ireturn (ty := .int) dX7_stepTo_44 rfl rfl (Nat.le_refl 0) (Nat.le_refl 0) ⟨_, rfl, rfl, K⟩
  · have K := K.2 c
    refine zw_bipush (v := (-9 : Int32)) dX7_stepTo_22 (by decide) rfl ?_
    exact zw_ireturn (ty := .int) dX7_stepTo_24 rfl rfl (Nat.le_refl 0) (Nat.le_refl 0) ⟨_, rfl, rfl, K⟩

set_option maxRecDepth 100000 in
set_option maxHeartbeats 4000000 in
theorem rX7_moveElements_0 {q : Int32 → zw_H → Prop} {h : zw_H} {v1 : Int32} (K : (∃ j1 : Nat, v1 = nI j1 ∧ j1 < 8 ∧ zwI 5 mX7_moveElements q 15 [(0, .ref 0), (1, .int v1), (2, .int (h.1 2 j1)), (3, .int (0 : Int32)), (4, .int (0 : Int32))] [] h)) : zwI 5 mX7_moveElements q 0 [(0, .ref 0), (1, .int v1)] [] h := by
  refine zw_aload_n 0 dX7_moveElements_0 rfl rfl rfl ?_
  refine zw_getR f_X7_10 dX7_moveElements_1 zs_0 rfl rfl ?_
  refine zw_getR f_X7_133 dX7_moveElements_4 zs_1 rfl rfl ?_
  refine zw_iload_n 1 dX7_moveElements_7 rfl rfl rfl ?_
  obtain ⟨j1, hj1, hn1, K⟩ := K
  refine zw_iald j1 dX7_moveElements_8 zs_2 ⟨hj1, hn1⟩ (by decide) rfl ?_
  refine zw_istore_n dX7_moveElements_9 rfl (by decide) rfl rfl ?_
  refine zw_iconst (v := (0 : Int32)) dX7_moveElements_10 (by decide) rfl ?_
  refine zw_istore_n dX7_moveElements_11 rfl (by decide) rfl rfl ?_
  refine zw_iconst (v := (0 : Int32)) dX7_moveElements_12 (by decide) rfl ?_
  refine zw_istore dX7_moveElements_13 (by decide) rfl rfl ?_
  exact zw.sub [3, 4, 2, 1, 0] rfl K

set_option maxRecDepth 100000 in
set_option maxHeartbeats 4000000 in
theorem rX7_moveElements_15 {q : Int32 → zw_H → Prop} {h : zw_H} {v1 v2 v3 v4 : Int32} (K : (((15 : Int32) ≤ v4 → (∃ q1 : Int32 → zw_H → Prop, zcI 4 mX7_put [.ref 0, .int v1, .int v3] h q1 ∧ (∀ (x1 : Int32) (h1 : zw_H), q1 x1 h1 → ((v3 = v2 → q (0 : Int32) h1) ∧ (¬ v3 = v2 → q (1 : Int32) h1))))) ∧ (¬ (15 : Int32) ≤ v4 → ((((v2 >>> (v4 &&& 31)) &&& (1 : Int32)) = 0 → zwI 5 mX7_moveElements q 15 [(0, .ref 0), (1, .int v1), (2, .int v2), (3, .int v3), (4, .int (v4 + (1 : Int32)))] [] h) ∧ (¬ ((v2 >>> (v4 &&& 31)) &&& (1 : Int32)) = 0 → (∃ j2 : Nat, v4 = nI j2 ∧ j2 < 15 ∧ (∃ j3 : Nat, (zw_small j2) = nI j3 ∧ j3 < 6 ∧ (∃ j4 : Nat, v4 = nI j4 ∧ j4 < 15 ∧ (∃ j5 : Nat, (zw_great j4) = nI j5 ∧ j5 < 6 ∧ (∃ q6 : Int32 → zw_H → Prop, zcI 0 mX7_pairBit [.int (h.1 54 j3), .int (h.1 54 j5)] h q6 ∧ (∀ (x6 : Int32) (h6 : zw_H), q6 x6 h6 → zwI 5 mX7_moveElements q 15 [(0, .ref 0), (1, .int v1), (2, .int v2), (3, .int (v3 ||| x6)), (4, .int (v4 + (1 : Int32)))] [] h6))))))))))) : zwI 5 mX7_moveElements q 15 [(0, .ref 0), (1, .int v1), (2, .int v2), (3, .int v3), (4, .int v4)] [] h := by
  refine zw_iload 4 dX7_moveElements_15 rfl rfl ?_
  refine zw_bipush (v := (15 : Int32)) dX7_moveElements_17 (by decide) rfl ?_
  refine zw_icmp_ge (tg := 65) dX7_moveElements_19 (by decide) rfl (fun c => ?_) (fun c => ?_)
  · have K := K.1 c
    refine zw_aload_n 0 dX7_moveElements_65 rfl rfl rfl ?_
    refine zw_iload_n 1 dX7_moveElements_66 rfl rfl rfl ?_
    refine zw_iload_n 3 dX7_moveElements_67 rfl rfl rfl ?_
    obtain ⟨q1, ct, K⟩ := K
    refine zw_callV (n := 2) (As := [.int v1, .int v3]) (rest := []) ct my_X7_put rfl rfl k_X7_124 i_X7_put s_X7_put zs_0 rfl dX7_moveElements_68 (by decide) (Nat.le_of_ble_eq_true rfl) (Nat.le_refl 0) (Nat.le_refl 0) rfl (fun r s1 h1 hq => ?_)
    obtain ⟨x1, rfl, rfl, hq⟩ := hq
    have K := K x1 h1 hq
    refine zw.st (st' := [.int x1]) rfl ?_
    refine zw_pop dX7_moveElements_71 rfl rfl ?_
    refine zw_iload_n 3 dX7_moveElements_72 rfl rfl rfl ?_
    refine zw_iload_n 2 dX7_moveElements_73 rfl rfl rfl ?_
    refine zw_icmp_eq (tg := 81) dX7_moveElements_74 (by decide) rfl (fun c => ?_) (fun c => ?_)
    · have K := K.1 c
      refine zw_iconst (v := (0 : Int32)) dX7_moveElements_81 (by decide) rfl ?_
      exact zw_ireturn (ty := .int) dX7_moveElements_82 rfl rfl (Nat.le_refl 0) (Nat.le_refl 0) ⟨_, rfl, rfl, K⟩
    · have K := K.2 c
      refine zw_iconst (v := (1 : Int32)) dX7_moveElements_77 (by decide) rfl ?_
      refine zw_goto (np := 82) dX7_moveElements_78 (by decide) ?_
      exact zw_ireturn (ty := .int) dX7_moveElements_82 rfl rfl (Nat.le_refl 0) (Nat.le_refl 0) ⟨_, rfl, rfl, K⟩
  · have K := K.2 c
    refine zw_iload_n 2 dX7_moveElements_22 rfl rfl rfl ?_
    refine zw_iload 4 dX7_moveElements_23 rfl rfl ?_
    refine zw_ishr dX7_moveElements_25 rfl ?_
    refine zw_iconst (v := (1 : Int32)) dX7_moveElements_26 (by decide) rfl ?_
    refine zw_iand dX7_moveElements_27 rfl ?_
    refine zw_if_eq (tg := 59) dX7_moveElements_28 (by decide) rfl (fun c => ?_) (fun c => ?_)
    · have K := K.1 c
      refine zw_iinc (v := (v4 + (1 : Int32))) 4 dX7_moveElements_59 rfl rfl (by decide) rfl rfl ?_
      refine zw_goto (np := 15) dX7_moveElements_62 (by decide) ?_
      exact zw.sub [1, 2, 3, 4, 0] rfl K
    · have K := K.2 c
      refine zw_iload_n 3 dX7_moveElements_31 rfl rfl rfl ?_
      refine zw_aload_n 0 dX7_moveElements_32 rfl rfl rfl ?_
      refine zw_getR f_X7_61 dX7_moveElements_33 zs_0 rfl rfl ?_
      refine zw_getS g_X7_337 dX7_moveElements_36 rfl ?_
      refine zw_iload 4 dX7_moveElements_39 rfl rfl ?_
      obtain ⟨j2, hj2, hn2, K⟩ := K
      refine zw_ialdS j2 dX7_moveElements_41 ⟨hj2, hn2⟩ rfl ?_
      obtain ⟨j3, hj3, hn3, K⟩ := K
      refine zw_iald j3 dX7_moveElements_42 zs_54 ⟨hj3, hn3⟩ (by decide) rfl ?_
      refine zw_aload_n 0 dX7_moveElements_43 rfl rfl rfl ?_
      refine zw_getR f_X7_61 dX7_moveElements_44 zs_0 rfl rfl ?_
      refine zw_getG g_X7_340 dX7_moveElements_47 rfl ?_
      refine zw_iload 4 dX7_moveElements_50 rfl rfl ?_
      obtain ⟨j4, hj4, hn4, K⟩ := K
      refine zw_ialdG j4 dX7_moveElements_52 ⟨hj4, hn4⟩ rfl ?_
      obtain ⟨j5, hj5, hn5, K⟩ := K
      refine zw_iald j5 dX7_moveElements_53 zs_54 ⟨hj5, hn5⟩ (by decide) rfl ?_
      obtain ⟨q6, ct, K⟩ := K
      refine zw_callS (n := 2) (As := [.int (h.1 54 j3), .int (h.1 54 j5)]) (rest := [.int v3]) ct my_X7_pairBit rfl rfl k_X7_97 t_X7_pairBit dX7_moveElements_54 (by decide) (Nat.le_of_ble_eq_true rfl) (Nat.le_refl 0) (Nat.le_refl 0) rfl (fun r s1 h6 hq => ?_)
      obtain ⟨x6, rfl, rfl, hq⟩ := hq
      have K := K x6 h6 hq
      refine zw.st (st' := [.int x6, .int v3]) rfl ?_
      refine zw_ior dX7_moveElements_57 rfl ?_
      refine zw_istore_n dX7_moveElements_58 rfl (by decide) rfl rfl ?_
      refine zw_iinc (v := (v4 + (1 : Int32))) 4 dX7_moveElements_59 rfl rfl (by decide) rfl rfl ?_
      refine zw_goto (np := 15) dX7_moveElements_62 (by decide) ?_
      exact zw.sub [2, 3, 4, 1, 0] rfl K

set_option maxRecDepth 100000 in
set_option maxHeartbeats 4000000 in
theorem rX7_spellRegister_0 {q : zw_H → Prop} {h : zw_H} {v1 : Int32} (K : (∃ j1 : Nat, v1 = nI j1 ∧ j1 < 8 ∧ (∃ q2 : zw_H → Prop, zcV 2 mX3_spell [.ref 48, .int (h.1 2 j1), .int (h.1 1 1)] h q2 ∧ (∀ h2 : zw_H, q2 h2 → q h2)))) : zwV 3 mX7_spellRegister q 0 [(0, .ref 0), (1, .int v1)] [] h := by
  refine zw_aload_n 0 dX7_spellRegister_0 rfl rfl rfl ?_
  refine zw_getR f_X7_54 dX7_spellRegister_1 zs_0 rfl rfl ?_
  refine zw_aload_n 0 dX7_spellRegister_4 rfl rfl rfl ?_
  refine zw_getR f_X7_10 dX7_spellRegister_5 zs_0 rfl rfl ?_
  refine zw_getR f_X7_133 dX7_spellRegister_8 zs_1 rfl rfl ?_
  refine zw_iload_n 1 dX7_spellRegister_11 rfl rfl rfl ?_
  obtain ⟨j1, hj1, hn1, K⟩ := K
  refine zw_iald j1 dX7_spellRegister_12 zs_2 ⟨hj1, hn1⟩ (by decide) rfl ?_
  refine zw_aload_n 0 dX7_spellRegister_13 rfl rfl rfl ?_
  refine zw_getR f_X7_10 dX7_spellRegister_14 zs_0 rfl rfl ?_
  refine zw_getI f_X7_75 dX7_spellRegister_17 zs_1 rfl rfl ?_
  obtain ⟨q2, ct, K⟩ := K
  refine zw_callV (n := 2) (As := [.int (h.1 2 j1), .int (h.1 1 1)]) (rest := []) ct my_X3_spell rfl rfl k_X7_275 i_X3_spell s_X3_spell zs_48 rfl dX7_spellRegister_20 (by decide) (Nat.le_of_ble_eq_true rfl) (Nat.le_refl 0) (Nat.le_refl 0) rfl (fun r s1 h2 hq => ?_)
  obtain ⟨rfl, rfl, hq⟩ := hq
  have K := K h2 hq
  refine zw.st (st' := []) rfl ?_
  exact zw_return dX7_spellRegister_23 rfl (Nat.le_refl 0) (Nat.le_refl 0) ⟨rfl, rfl, K⟩

set_option maxRecDepth 100000 in
set_option maxHeartbeats 4000000 in
theorem rX7_blockCountOf_0 {q : Int32 → zw_H → Prop} {h : zw_H} {v1 : Int32} (K : (∃ q1 : zw_H → Prop, zcV 2 mX3_spell [.ref 48, .int v1, .int (h.1 1 1)] h q1 ∧ (∀ h1 : zw_H, q1 h1 → q (h1.1 48 3) h1))) : zwI 3 mX7_blockCountOf q 0 [(0, .ref 0), (1, .int v1)] [] h := by
  refine zw_aload_n 0 dX7_blockCountOf_0 rfl rfl rfl ?_
  refine zw_getR f_X7_54 dX7_blockCountOf_1 zs_0 rfl rfl ?_
  refine zw_iload_n 1 dX7_blockCountOf_4 rfl rfl rfl ?_
  refine zw_aload_n 0 dX7_blockCountOf_5 rfl rfl rfl ?_
  refine zw_getR f_X7_10 dX7_blockCountOf_6 zs_0 rfl rfl ?_
  refine zw_getI f_X7_75 dX7_blockCountOf_9 zs_1 rfl rfl ?_
  obtain ⟨q1, ct, K⟩ := K
  refine zw_callV (n := 2) (As := [.int v1, .int (h.1 1 1)]) (rest := []) ct my_X3_spell rfl rfl k_X7_275 i_X3_spell s_X3_spell zs_48 rfl dX7_blockCountOf_12 (by decide) (Nat.le_of_ble_eq_true rfl) (Nat.le_refl 0) (Nat.le_refl 0) rfl (fun r s1 h1 hq => ?_)
  obtain ⟨rfl, rfl, hq⟩ := hq
  have K := K h1 hq
  refine zw.st (st' := []) rfl ?_
  refine zw_aload_n 0 dX7_blockCountOf_15 rfl rfl rfl ?_
  refine zw_getR f_X7_54 dX7_blockCountOf_16 zs_0 rfl rfl ?_
  refine zw_getI f_X7_183 dX7_blockCountOf_19 zs_48 rfl rfl ?_
  exact zw_ireturn (ty := .int) dX7_blockCountOf_22 rfl rfl (Nat.le_refl 0) (Nat.le_refl 0) ⟨_, rfl, rfl, K⟩

set_option maxRecDepth 100000 in
set_option maxHeartbeats 4000000 in
theorem rX7_findNearestBounds_0 {q : zw_H → Prop} {h : zw_H} {v1 v2 v3 : Int32} (K : (∃ j1 : Nat, v1 = nI j1 ∧ j1 < 8 ∧ (∃ j2 : Nat, v2 = nI j2 ∧ j2 < 8 ∧ ((v3 = 0 → (∃ q3 : zw_H → Prop, zcV 2 mX2_findNearest [.ref 37, .int ((h.1 2 j1) ||| (h.1 2 j2)), .int v3, .int (-1 : Int32)] h q3 ∧ (∀ h3 : zw_H, q3 h3 → q h3))) ∧ (¬ v3 = 0 → (∃ q4 : zw_H → Prop, zcV 2 mX2_findNearest [.ref 37, .int ((h.1 2 j1) &&& (h.1 2 j2)), .int v3, .int (-1 : Int32)] h q4 ∧ (∀ h4 : zw_H, q4 h4 → q h4))))))) : zwV 3 mX7_findNearestBounds q 0 [(0, .ref 0), (1, .int v1), (2, .int v2), (3, .int v3)] [] h := by
  refine zw_aload_n 0 dX7_findNearestBounds_0 rfl rfl rfl ?_
  refine zw_getR f_X7_10 dX7_findNearestBounds_1 zs_0 rfl rfl ?_
  refine zw_getR f_X7_133 dX7_findNearestBounds_4 zs_1 rfl rfl ?_
  refine zw_iload_n 1 dX7_findNearestBounds_7 rfl rfl rfl ?_
  obtain ⟨j1, hj1, hn1, K⟩ := K
  refine zw_iald j1 dX7_findNearestBounds_8 zs_2 ⟨hj1, hn1⟩ (by decide) rfl ?_
  refine zw_istore dX7_findNearestBounds_9 (by decide) rfl rfl ?_
  refine zw_aload_n 1 dX7_findNearestBounds_11 rfl rfl rfl ?_
  refine zw_getR f_X7_10 dX7_findNearestBounds_12 zs_0 rfl rfl ?_
  refine zw_getR f_X7_133 dX7_findNearestBounds_15 zs_1 rfl rfl ?_
  refine zw_iload_n 3 dX7_findNearestBounds_18 rfl rfl rfl ?_
  obtain ⟨j2, hj2, hn2, K⟩ := K
  refine zw_iald j2 dX7_findNearestBounds_19 zs_2 ⟨hj2, hn2⟩ (by decide) rfl ?_
  refine zw_istore dX7_findNearestBounds_20 (by decide) rfl rfl ?_
  refine zw_aload_n 2 dX7_findNearestBounds_22 rfl rfl rfl ?_
  refine zw_getR f_X7_40 dX7_findNearestBounds_23 zs_0 rfl rfl ?_
  refine zw_iload_n 5 dX7_findNearestBounds_26 rfl rfl rfl ?_
  refine zw_if_eq (tg := 38) dX7_findNearestBounds_27 (by decide) rfl (fun c => ?_) (fun c => ?_)
  · have K := K.1 c
    refine zw_iload 1 dX7_findNearestBounds_38 rfl rfl ?_
    refine zw_iload 0 dX7_findNearestBounds_40 rfl rfl ?_
    refine zw_ior dX7_findNearestBounds_42 rfl ?_
    refine zw_iload_n 5 dX7_findNearestBounds_43 rfl rfl rfl ?_
    refine zw_iconst (v := (-1 : Int32)) dX7_findNearestBounds_44 (by decide) rfl ?_
    obtain ⟨q3, ct, K⟩ := K
    refine zw_callV (n := 3) (As := [.int ((h.1 2 j1) ||| (h.1 2 j2)), .int v3, .int (-1 : Int32)]) (rest := []) ct my_X2_findNearest rfl rfl k_X7_224 i_X2_findNearest s_X2_findNearest zs_37 rfl dX7_findNearestBounds_45 (by decide) (Nat.le_of_ble_eq_true rfl) (Nat.le_refl 0) (Nat.le_refl 0) rfl (fun r s1 h3 hq => ?_)
    obtain ⟨rfl, rfl, hq⟩ := hq
    have K := K h3 hq
    refine zw.st (st' := []) rfl ?_
    exact zw_return dX7_findNearestBounds_48 rfl (Nat.le_refl 0) (Nat.le_refl 0) ⟨rfl, rfl, K⟩
  · have K := K.2 c
    refine zw_iload 1 dX7_findNearestBounds_30 rfl rfl ?_
    refine zw_iload 0 dX7_findNearestBounds_32 rfl rfl ?_
    refine zw_iand dX7_findNearestBounds_34 rfl ?_
    refine zw_goto (np := 43) dX7_findNearestBounds_35 (by decide) ?_
    refine zw_iload_n 5 dX7_findNearestBounds_43 rfl rfl rfl ?_
    refine zw_iconst (v := (-1 : Int32)) dX7_findNearestBounds_44 (by decide) rfl ?_
    obtain ⟨q4, ct, K⟩ := K
    refine zw_callV (n := 3) (As := [.int ((h.1 2 j1) &&& (h.1 2 j2)), .int v3, .int (-1 : Int32)]) (rest := []) ct my_X2_findNearest rfl rfl k_X7_224 i_X2_findNearest s_X2_findNearest zs_37 rfl dX7_findNearestBounds_45 (by decide) (Nat.le_of_ble_eq_true rfl) (Nat.le_refl 0) (Nat.le_refl 0) rfl (fun r s1 h4 hq => ?_)
    obtain ⟨rfl, rfl, hq⟩ := hq
    have K := K h4 hq
    refine zw.st (st' := []) rfl ?_
    exact zw_return dX7_findNearestBounds_48 rfl (Nat.le_refl 0) (Nat.le_refl 0) ⟨rfl, rfl, K⟩

set_option maxRecDepth 100000 in
set_option maxHeartbeats 4000000 in
theorem rX7_selectSpan_0 {q : zw_H → Prop} {h : zw_H} {v1 v2 : Int32} (K : (∃ j1 : Nat, v1 = nI j1 ∧ j1 < 8 ∧ (∃ j2 : Nat, v2 = nI j2 ∧ j2 < 8 ∧ (∃ q3 : zw_H → Prop, zcV 1 mX4_select [.ref 43, .ref 37, .int (h.1 2 j1), .int (h.1 2 j2)] h q3 ∧ (∀ h3 : zw_H, q3 h3 → q h3))))) : zwV 2 mX7_selectSpan q 0 [(0, .ref 0), (1, .int v1), (2, .int v2)] [] h := by
  refine zw_aload_n 0 dX7_selectSpan_0 rfl rfl rfl ?_
  refine zw_getR f_X7_47 dX7_selectSpan_1 zs_0 rfl rfl ?_
  refine zw_aload_n 0 dX7_selectSpan_4 rfl rfl rfl ?_
  refine zw_getR f_X7_40 dX7_selectSpan_5 zs_0 rfl rfl ?_
  refine zw_aload_n 0 dX7_selectSpan_8 rfl rfl rfl ?_
  refine zw_getR f_X7_10 dX7_selectSpan_9 zs_0 rfl rfl ?_
  refine zw_getR f_X7_133 dX7_selectSpan_12 zs_1 rfl rfl ?_
  refine zw_iload_n 1 dX7_selectSpan_15 rfl rfl rfl ?_
  obtain ⟨j1, hj1, hn1, K⟩ := K
  refine zw_iald j1 dX7_selectSpan_16 zs_2 ⟨hj1, hn1⟩ (by decide) rfl ?_
  refine zw_aload_n 0 dX7_selectSpan_17 rfl rfl rfl ?_
  refine zw_getR f_X7_10 dX7_selectSpan_18 zs_0 rfl rfl ?_
  refine zw_getR f_X7_133 dX7_selectSpan_21 zs_1 rfl rfl ?_
  refine zw_iload_n 2 dX7_selectSpan_24 rfl rfl rfl ?_
  obtain ⟨j2, hj2, hn2, K⟩ := K
  refine zw_iald j2 dX7_selectSpan_25 zs_2 ⟨hj2, hn2⟩ (by decide) rfl ?_
  obtain ⟨q3, ct, K⟩ := K
  refine zw_callV (n := 3) (As := [.ref 37, .int (h.1 2 j1), .int (h.1 2 j2)]) (rest := []) ct my_X4_select rfl rfl k_X7_343 i_X4_select s_X4_select zs_43 rfl dX7_selectSpan_26 (by decide) (Nat.le_of_ble_eq_true rfl) (Nat.le_refl 0) (Nat.le_refl 0) rfl (fun r s1 h3 hq => ?_)
  obtain ⟨rfl, rfl, hq⟩ := hq
  have K := K h3 hq
  refine zw.st (st' := []) rfl ?_
  exact zw_return dX7_selectSpan_29 rfl (Nat.le_refl 0) (Nat.le_refl 0) ⟨rfl, rfl, K⟩

set_option maxRecDepth 100000 in
set_option maxHeartbeats 4000000 in
theorem rX7_disagreementsWith_0 {q : Int32 → zw_H → Prop} {h : zw_H} {v1 v2 : Int32} (K : zwI 1 mX7_disagreementsWith q 5 [(0, .ref 0), (1, .int v1), (2, .int v2), (3, .int (0 : Int32)), (4, .int (0 : Int32))] [] h) : zwI 1 mX7_disagreementsWith q 0 [(0, .ref 0), (1, .int v1), (2, .int v2)] [] h := by
  refine zw_iconst (v := (0 : Int32)) dX7_disagreementsWith_0 (by decide) rfl ?_
  refine zw_istore_n dX7_disagreementsWith_1 rfl (by decide) rfl rfl ?_
  refine zw_iconst (v := (0 : Int32)) dX7_disagreementsWith_2 (by decide) rfl ?_
  refine zw_istore dX7_disagreementsWith_3 (by decide) rfl rfl ?_
  exact zw.sub [2, 3, 4, 1, 0] rfl K

set_option maxRecDepth 100000 in
set_option maxHeartbeats 4000000 in
theorem rX7_disagreementsWith_5 {q : Int32 → zw_H → Prop} {h : zw_H} {v1 v2 v3 v4 : Int32} (K : (((8 : Int32) ≤ v4 → q v3 h) ∧ (¬ (8 : Int32) ≤ v4 → ((((v1 >>> (v4 &&& 31)) &&& (1 : Int32)) = 0 → zwI 1 mX7_disagreementsWith q 5 [(0, .ref 0), (1, .int v1), (2, .int v2), (3, .int v3), (4, .int (v4 + (1 : Int32)))] [] h) ∧ (¬ ((v1 >>> (v4 &&& 31)) &&& (1 : Int32)) = 0 → (∃ j1 : Nat, v4 = nI j1 ∧ j1 < 8 ∧ (∃ q2 : Int32 → zw_H → Prop, zcI 0 mJ6_bitCount_0f7a4 [.int ((h.1 2 j1) ^^^ v2)] h q2 ∧ (∀ (x2 : Int32) (h2 : zw_H), q2 x2 h2 → zwI 1 mX7_disagreementsWith q 5 [(0, .ref 0), (1, .int v1), (2, .int v2), (3, .int (v3 + x2)), (4, .int (v4 + (1 : Int32)))] [] h2)))))))) : zwI 1 mX7_disagreementsWith q 5 [(0, .ref 0), (1, .int v1), (2, .int v2), (3, .int v3), (4, .int v4)] [] h := by
  refine zw_iload 4 dX7_disagreementsWith_5 rfl rfl ?_
  refine zw_bipush (v := (8 : Int32)) dX7_disagreementsWith_7 (by decide) rfl ?_
  refine zw_icmp_ge (tg := 45) dX7_disagreementsWith_9 (by decide) rfl (fun c => ?_) (fun c => ?_)
  · have K := K.1 c
    refine zw_iload_n 3 dX7_disagreementsWith_45 rfl rfl rfl ?_
    exact zw_ireturn (ty := .int) dX7_disagreementsWith_46 rfl rfl (Nat.le_refl 0) (Nat.le_refl 0) ⟨_, rfl, rfl, K⟩
  · have K := K.2 c
    refine zw_iload_n 1 dX7_disagreementsWith_12 rfl rfl rfl ?_
    refine zw_iload 4 dX7_disagreementsWith_13 rfl rfl ?_
    refine zw_ishr dX7_disagreementsWith_15 rfl ?_
    refine zw_iconst (v := (1 : Int32)) dX7_disagreementsWith_16 (by decide) rfl ?_
    refine zw_iand dX7_disagreementsWith_17 rfl ?_
    refine zw_if_eq (tg := 39) dX7_disagreementsWith_18 (by decide) rfl (fun c => ?_) (fun c => ?_)
    · have K := K.1 c
      refine zw_iinc (v := (v4 + (1 : Int32))) 4 dX7_disagreementsWith_39 rfl rfl (by decide) rfl rfl ?_
      refine zw_goto (np := 5) dX7_disagreementsWith_42 (by decide) ?_
      exact zw.sub [1, 2, 3, 4, 0] rfl K
    · have K := K.2 c
      refine zw_iload_n 3 dX7_disagreementsWith_21 rfl rfl rfl ?_
      refine zw_aload_n 0 dX7_disagreementsWith_22 rfl rfl rfl ?_
      refine zw_getR f_X7_10 dX7_disagreementsWith_23 zs_0 rfl rfl ?_
      refine zw_getR f_X7_133 dX7_disagreementsWith_26 zs_1 rfl rfl ?_
      refine zw_iload 4 dX7_disagreementsWith_29 rfl rfl ?_
      obtain ⟨j1, hj1, hn1, K⟩ := K
      refine zw_iald j1 dX7_disagreementsWith_31 zs_2 ⟨hj1, hn1⟩ (by decide) rfl ?_
      refine zw_iload_n 2 dX7_disagreementsWith_32 rfl rfl rfl ?_
      refine zw_ixor dX7_disagreementsWith_33 rfl ?_
      obtain ⟨q2, ct, K⟩ := K
      refine zw_callS (n := 1) (As := [.int ((h.1 2 j1) ^^^ v2)]) (rest := [.int v3]) ct my_J6_bitCount_0f7a4 rfl rfl k_X7_281 t_J6_bitCount_0f7a4 dX7_disagreementsWith_34 (by decide) (Nat.le_of_ble_eq_true rfl) (Nat.le_refl 0) (Nat.le_refl 0) rfl (fun r s1 h2 hq => ?_)
      obtain ⟨x2, rfl, rfl, hq⟩ := hq
      have K := K x2 h2 hq
      refine zw.st (st' := [.int x2, .int v3]) rfl ?_
      refine zw_iadd dX7_disagreementsWith_37 rfl ?_
      refine zw_istore_n dX7_disagreementsWith_38 rfl (by decide) rfl rfl ?_
      refine zw_iinc (v := (v4 + (1 : Int32))) 4 dX7_disagreementsWith_39 rfl rfl (by decide) rfl rfl ?_
      refine zw_goto (np := 5) dX7_disagreementsWith_42 (by decide) ?_
      exact zw.sub [2, 3, 4, 1, 0] rfl K

set_option maxRecDepth 100000 in
set_option maxHeartbeats 4000000 in
theorem rX7_mostThatStay_0 {q : Int32 → zw_H → Prop} {h : zw_H} (K : zwI 2 mX7_mostThatStay q 12 [(0, .ref 0), (1, .int ((1 : Int32) <<< ((h.1 51 3) &&& 31))), (2, .int (0 : Int32))] [] h) : zwI 2 mX7_mostThatStay q 0 [(0, .ref 0)] [] h := by
  refine zw_iconst (v := (1 : Int32)) dX7_mostThatStay_0 (by decide) rfl ?_
  refine zw_aload_n 0 dX7_mostThatStay_1 rfl rfl rfl ?_
  refine zw_getR f_X7_58 dX7_mostThatStay_2 zs_0 rfl rfl ?_
  refine zw_getI f_X7_183 dX7_mostThatStay_5 zs_51 rfl rfl ?_
  refine zw_ishl dX7_mostThatStay_8 rfl ?_
  refine zw_istore_n dX7_mostThatStay_9 rfl (by decide) rfl rfl ?_
  refine zw_iconst (v := (0 : Int32)) dX7_mostThatStay_10 (by decide) rfl ?_
  refine zw_istore_n dX7_mostThatStay_11 rfl (by decide) rfl rfl ?_
  exact zw.sub [2, 1, 0] rfl K

set_option maxRecDepth 100000 in
set_option maxHeartbeats 4000000 in
theorem rX7_mostThatStay_12 {q : Int32 → zw_H → Prop} {h : zw_H} {v1 v2 : Int32} (K : ((v1 ≤ v2 → zwI 2 mX7_mostThatStay q 32 [(0, .ref 0), (1, .int v1), (2, .int (0 : Int32))] [] h) ∧ (¬ v1 ≤ v2 → (∃ j1 : Nat, v2 = nI j1 ∧ j1 < 64 ∧ ∀ h2 : zw_H, h2 = zw_sI h 55 j1 (0 : Int32) → zwI 2 mX7_mostThatStay q 12 [(0, .ref 0), (1, .int v1), (2, .int (v2 + (1 : Int32)))] [] h2)))) : zwI 2 mX7_mostThatStay q 12 [(0, .ref 0), (1, .int v1), (2, .int v2)] [] h := by
  refine zw_iload_n 2 dX7_mostThatStay_12 rfl rfl rfl ?_
  refine zw_iload_n 1 dX7_mostThatStay_13 rfl rfl rfl ?_
  refine zw_icmp_ge (tg := 30) dX7_mostThatStay_14 (by decide) rfl (fun c => ?_) (fun c => ?_)
  · have K := K.1 c
    refine zw_iconst (v := (0 : Int32)) dX7_mostThatStay_30 (by decide) rfl ?_
    refine zw_istore_n dX7_mostThatStay_31 rfl (by decide) rfl rfl ?_
    exact zw.sub [1, 2, 0] rfl K
  · have K := K.2 c
    refine zw_aload_n 0 dX7_mostThatStay_17 rfl rfl rfl ?_
    refine zw_getR f_X7_65 dX7_mostThatStay_18 zs_0 rfl rfl ?_
    refine zw_iload_n 2 dX7_mostThatStay_21 rfl rfl rfl ?_
    refine zw_iconst (v := (0 : Int32)) dX7_mostThatStay_22 (by decide) rfl ?_
    obtain ⟨j1, hj1, hn1, K⟩ := K
    refine zw_iast j1 dX7_mostThatStay_23 zs_55 ⟨hj1, hn1⟩ (by decide) rfl ?_
    generalize e2 : zw_sI h 55 j1 (0 : Int32) = h2
    have K := K h2 e2.symm
    refine zw_iinc (v := (v2 + (1 : Int32))) 2 dX7_mostThatStay_24 rfl rfl (by decide) rfl rfl ?_
    refine zw_goto (np := 12) dX7_mostThatStay_27 (by decide) ?_
    exact zw.sub [1, 2, 0] rfl K

set_option maxRecDepth 100000 in
set_option maxHeartbeats 4000000 in
theorem rX7_mostThatStay_32 {q : Int32 → zw_H → Prop} {h : zw_H} {v1 v2 : Int32} (K : (((h.1 48 3) ≤ v2 → (∃ j1 : Nat, (v1 - (1 : Int32)) = nI j1 ∧ j1 < 64 ∧ q (h.1 55 j1) h)) ∧ (¬ (h.1 48 3) ≤ v2 → zwI 2 mX7_mostThatStay q 47 [(0, .ref 0), (1, .int v1), (2, .int v2), (3, .int (v1 - (1 : Int32)))] [] h))) : zwI 2 mX7_mostThatStay q 32 [(0, .ref 0), (1, .int v1), (2, .int v2)] [] h := by
  refine zw_iload_n 2 dX7_mostThatStay_32 rfl rfl rfl ?_
  refine zw_aload_n 0 dX7_mostThatStay_33 rfl rfl rfl ?_
  refine zw_getR f_X7_54 dX7_mostThatStay_34 zs_0 rfl rfl ?_
  refine zw_getI f_X7_183 dX7_mostThatStay_37 zs_48 rfl rfl ?_
  refine zw_icmp_ge (tg := 84) dX7_mostThatStay_40 (by decide) rfl (fun c => ?_) (fun c => ?_)
  · have K := K.1 c
    refine zw_aload_n 0 dX7_mostThatStay_84 rfl rfl rfl ?_
    refine zw_getR f_X7_65 dX7_mostThatStay_85 zs_0 rfl rfl ?_
    refine zw_iload_n 1 dX7_mostThatStay_88 rfl rfl rfl ?_
    refine zw_iconst (v := (1 : Int32)) dX7_mostThatStay_89 (by decide) rfl ?_
    refine zw_isub dX7_mostThatStay_90 rfl ?_
    obtain ⟨j1, hj1, hn1, K⟩ := K
    refine zw_iald j1 dX7_mostThatStay_91 zs_55 ⟨hj1, hn1⟩ (by decide) rfl ?_
    exact zw_ireturn (ty := .int) dX7_mostThatStay_92 rfl rfl (Nat.le_refl 0) (Nat.le_refl 0) ⟨_, rfl, rfl, K⟩
  · have K := K.2 c
    refine zw_iload_n 1 dX7_mostThatStay_43 rfl rfl rfl ?_
    refine zw_iconst (v := (1 : Int32)) dX7_mostThatStay_44 (by decide) rfl ?_
    refine zw_isub dX7_mostThatStay_45 rfl ?_
    refine zw_istore_n dX7_mostThatStay_46 rfl (by decide) rfl rfl ?_
    exact zw.sub [1, 2, 3, 0] rfl K

set_option maxRecDepth 100000 in
set_option maxHeartbeats 4000000 in
theorem rX7_mostThatStay_47 {q : Int32 → zw_H → Prop} {h : zw_H} {v1 v2 v3 : Int32} (K : ((v3 ≤ 0 → zwI 2 mX7_mostThatStay q 32 [(0, .ref 0), (1, .int v1), (2, .int (v2 + (1 : Int32)))] [] h) ∧ (¬ v3 ≤ 0 → (∃ j1 : Nat, v3 = nI j1 ∧ j1 < 64 ∧ (∃ q2 : Int32 → zw_H → Prop, zcI 1 mX7_mostWithBlock [.ref 0, .int v2, .int v3] h q2 ∧ (∀ (x2 : Int32) (h2 : zw_H), q2 x2 h2 → (∃ j3 : Nat, v3 = nI j3 ∧ j3 < 64 ∧ ∀ h4 : zw_H, h4 = zw_sI h2 55 j3 (zmax (h.1 55 j1) x2) → zwI 2 mX7_mostThatStay q 47 [(0, .ref 0), (1, .int v1), (2, .int v2), (3, .int (v3 + (-1 : Int32)))] [] h4))))))) : zwI 2 mX7_mostThatStay q 47 [(0, .ref 0), (1, .int v1), (2, .int v2), (3, .int v3)] [] h := by
  refine zw_iload_n 3 dX7_mostThatStay_47 rfl rfl rfl ?_
  refine zw_if_le (tg := 78) dX7_mostThatStay_48 (by decide) rfl (fun c => ?_) (fun c => ?_)
  · have K := K.1 c
    refine zw_iinc (v := (v2 + (1 : Int32))) 2 dX7_mostThatStay_78 rfl rfl (by decide) rfl rfl ?_
    refine zw_goto (np := 32) dX7_mostThatStay_81 (by decide) ?_
    exact zw.sub [1, 2, 0] rfl K
  · have K := K.2 c
    refine zw_aload_n 0 dX7_mostThatStay_51 rfl rfl rfl ?_
    refine zw_getR f_X7_65 dX7_mostThatStay_52 zs_0 rfl rfl ?_
    refine zw_iload_n 3 dX7_mostThatStay_55 rfl rfl rfl ?_
    refine zw_aload_n 0 dX7_mostThatStay_56 rfl rfl rfl ?_
    refine zw_getR f_X7_65 dX7_mostThatStay_57 zs_0 rfl rfl ?_
    refine zw_iload_n 3 dX7_mostThatStay_60 rfl rfl rfl ?_
    obtain ⟨j1, hj1, hn1, K⟩ := K
    refine zw_iald j1 dX7_mostThatStay_61 zs_55 ⟨hj1, hn1⟩ (by decide) rfl ?_
    refine zw_aload_n 0 dX7_mostThatStay_62 rfl rfl rfl ?_
    refine zw_iload_n 2 dX7_mostThatStay_63 rfl rfl rfl ?_
    refine zw_iload_n 3 dX7_mostThatStay_64 rfl rfl rfl ?_
    obtain ⟨q2, ct, K⟩ := K
    refine zw_callV (n := 2) (As := [.int v2, .int v3]) (rest := [.int (h.1 55 j1), .int v3, .ref 55]) ct my_X7_mostWithBlock rfl rfl k_X7_346 i_X7_mostWithBlock s_X7_mostWithBlock zs_0 rfl dX7_mostThatStay_65 (by decide) (Nat.le_of_ble_eq_true rfl) (Nat.le_refl 0) (Nat.le_refl 0) rfl (fun r s1 h2 hq => ?_)
    obtain ⟨x2, rfl, rfl, hq⟩ := hq
    have K := K x2 h2 hq
    refine zw.st (st' := [.int x2, .int (h.1 55 j1), .int v3, .ref 55]) rfl ?_
    refine zw_max k_X7_349 dX7_mostThatStay_68 (by decide) (Nat.le_of_ble_eq_true rfl) (Nat.le_refl 0) (Nat.le_refl 0) rfl ?_
    obtain ⟨j3, hj3, hn3, K⟩ := K
    refine zw_iast j3 dX7_mostThatStay_71 zs_55 ⟨hj3, hn3⟩ (by decide) rfl ?_
    generalize e4 : zw_sI h2 55 j3 (zmax (h.1 55 j1) x2) = h4
    have K := K h4 e4.symm
    refine zw_iinc (v := (v3 + (-1 : Int32))) 3 dX7_mostThatStay_72 rfl rfl (by decide) rfl rfl ?_
    refine zw_goto (np := 47) dX7_mostThatStay_75 (by decide) ?_
    exact zw.sub [1, 2, 3, 0] rfl K

set_option maxRecDepth 100000 in
set_option maxHeartbeats 4000000 in
theorem rX7_mostWithBlock_0 {q : Int32 → zw_H → Prop} {h : zw_H} {v1 v2 : Int32} (K : zwI 1 mX7_mostWithBlock q 5 [(0, .ref 0), (1, .int v1), (2, .int v2), (3, .int (0 : Int32)), (4, .int (0 : Int32))] [] h) : zwI 1 mX7_mostWithBlock q 0 [(0, .ref 0), (1, .int v1), (2, .int v2)] [] h := by
  refine zw_iconst (v := (0 : Int32)) dX7_mostWithBlock_0 (by decide) rfl ?_
  refine zw_istore_n dX7_mostWithBlock_1 rfl (by decide) rfl rfl ?_
  refine zw_iconst (v := (0 : Int32)) dX7_mostWithBlock_2 (by decide) rfl ?_
  refine zw_istore dX7_mostWithBlock_3 (by decide) rfl rfl ?_
  exact zw.sub [2, 3, 4, 1, 0] rfl K

set_option maxRecDepth 100000 in
set_option maxHeartbeats 4000000 in
theorem rX7_mostWithBlock_5 {q : Int32 → zw_H → Prop} {h : zw_H} {v1 v2 v3 v4 : Int32} (K : (((h.1 51 3) ≤ v4 → q v3 h) ∧ (¬ (h.1 51 3) ≤ v4 → ((((v2 >>> (v4 &&& 31)) &&& (1 : Int32)) = 0 → zwI 1 mX7_mostWithBlock q 5 [(0, .ref 0), (1, .int v1), (2, .int v2), (3, .int v3), (4, .int (v4 + (1 : Int32)))] [] h) ∧ (¬ ((v2 >>> (v4 &&& 31)) &&& (1 : Int32)) = 0 → (∃ j1 : Nat, v1 = nI j1 ∧ j1 < 6 ∧ (∃ j2 : Nat, v4 = nI j2 ∧ j2 < 6 ∧ (∃ q3 : Int32 → zw_H → Prop, zcI 0 mJ6_bitCount_0f7a4 [.int ((h.1 50 j1) &&& (h.1 53 j2))] h q3 ∧ (∀ (x3 : Int32) (h3 : zw_H), q3 x3 h3 → (∃ j4 : Nat, (v2 &&& (((1 : Int32) <<< (v4 &&& 31)) ^^^ (-1 : Int32))) = nI j4 ∧ j4 < 64 ∧ zwI 1 mX7_mostWithBlock q 5 [(0, .ref 0), (1, .int v1), (2, .int v2), (3, .int (zmax v3 ((h3.1 55 j4) + x3))), (4, .int (v4 + (1 : Int32)))] [] h3)))))))))) : zwI 1 mX7_mostWithBlock q 5 [(0, .ref 0), (1, .int v1), (2, .int v2), (3, .int v3), (4, .int v4)] [] h := by
  refine zw_iload 4 dX7_mostWithBlock_5 rfl rfl ?_
  refine zw_aload_n 0 dX7_mostWithBlock_7 rfl rfl rfl ?_
  refine zw_getR f_X7_58 dX7_mostWithBlock_8 zs_0 rfl rfl ?_
  refine zw_getI f_X7_183 dX7_mostWithBlock_11 zs_51 rfl rfl ?_
  refine zw_icmp_ge (tg := 78) dX7_mostWithBlock_14 (by decide) rfl (fun c => ?_) (fun c => ?_)
  · have K := K.1 c
    refine zw_iload_n 3 dX7_mostWithBlock_78 rfl rfl rfl ?_
    exact zw_ireturn (ty := .int) dX7_mostWithBlock_79 rfl rfl (Nat.le_refl 0) (Nat.le_refl 0) ⟨_, rfl, rfl, K⟩
  · have K := K.2 c
    refine zw_iload_n 2 dX7_mostWithBlock_17 rfl rfl rfl ?_
    refine zw_iload 4 dX7_mostWithBlock_18 rfl rfl ?_
    refine zw_ishr dX7_mostWithBlock_20 rfl ?_
    refine zw_iconst (v := (1 : Int32)) dX7_mostWithBlock_21 (by decide) rfl ?_
    refine zw_iand dX7_mostWithBlock_22 rfl ?_
    refine zw_if_eq (tg := 72) dX7_mostWithBlock_23 (by decide) rfl (fun c => ?_) (fun c => ?_)
    · have K := K.1 c
      refine zw_iinc (v := (v4 + (1 : Int32))) 4 dX7_mostWithBlock_72 rfl rfl (by decide) rfl rfl ?_
      refine zw_goto (np := 5) dX7_mostWithBlock_75 (by decide) ?_
      exact zw.sub [1, 2, 3, 4, 0] rfl K
    · have K := K.2 c
      refine zw_aload_n 0 dX7_mostWithBlock_26 rfl rfl rfl ?_
      refine zw_getR f_X7_54 dX7_mostWithBlock_27 zs_0 rfl rfl ?_
      refine zw_getR f_X7_186 dX7_mostWithBlock_30 zs_48 rfl rfl ?_
      refine zw_iload_n 1 dX7_mostWithBlock_33 rfl rfl rfl ?_
      obtain ⟨j1, hj1, hn1, K⟩ := K
      refine zw_iald j1 dX7_mostWithBlock_34 zs_50 ⟨hj1, hn1⟩ (by decide) rfl ?_
      refine zw_aload_n 0 dX7_mostWithBlock_35 rfl rfl rfl ?_
      refine zw_getR f_X7_58 dX7_mostWithBlock_36 zs_0 rfl rfl ?_
      refine zw_getR f_X7_186 dX7_mostWithBlock_39 zs_51 rfl rfl ?_
      refine zw_iload 4 dX7_mostWithBlock_42 rfl rfl ?_
      obtain ⟨j2, hj2, hn2, K⟩ := K
      refine zw_iald j2 dX7_mostWithBlock_44 zs_53 ⟨hj2, hn2⟩ (by decide) rfl ?_
      refine zw_iand dX7_mostWithBlock_45 rfl ?_
      obtain ⟨q3, ct, K⟩ := K
      refine zw_callS (n := 1) (As := [.int ((h.1 50 j1) &&& (h.1 53 j2))]) (rest := []) ct my_J6_bitCount_0f7a4 rfl rfl k_X7_281 t_J6_bitCount_0f7a4 dX7_mostWithBlock_46 (by decide) (Nat.le_of_ble_eq_true rfl) (Nat.le_refl 0) (Nat.le_refl 0) rfl (fun r s1 h3 hq => ?_)
      obtain ⟨x3, rfl, rfl, hq⟩ := hq
      have K := K x3 h3 hq
      refine zw.st (st' := [.int x3]) rfl ?_
      refine zw_istore dX7_mostWithBlock_49 (by decide) rfl rfl ?_
      refine zw_iload_n 4 dX7_mostWithBlock_51 rfl rfl rfl ?_
      refine zw_aload_n 1 dX7_mostWithBlock_52 rfl rfl rfl ?_
      refine zw_getR f_X7_65 dX7_mostWithBlock_53 zs_0 rfl rfl ?_
      refine zw_iload_n 3 dX7_mostWithBlock_56 rfl rfl rfl ?_
      refine zw_iconst (v := (1 : Int32)) dX7_mostWithBlock_57 (by decide) rfl ?_
      refine zw_iload 5 dX7_mostWithBlock_58 rfl rfl ?_
      refine zw_ishl dX7_mostWithBlock_60 rfl ?_
      refine zw_iconst (v := (-1 : Int32)) dX7_mostWithBlock_61 (by decide) rfl ?_
      refine zw_ixor dX7_mostWithBlock_62 rfl ?_
      refine zw_iand dX7_mostWithBlock_63 rfl ?_
      obtain ⟨j4, hj4, hn4, K⟩ := K
      refine zw_iald j4 dX7_mostWithBlock_64 zs_55 ⟨hj4, hn4⟩ (by decide) rfl ?_
      refine zw_iload 0 dX7_mostWithBlock_65 rfl rfl ?_
      refine zw_iadd dX7_mostWithBlock_67 rfl ?_
      refine zw_max k_X7_349 dX7_mostWithBlock_68 (by decide) (Nat.le_of_ble_eq_true rfl) (Nat.le_refl 0) (Nat.le_refl 0) rfl ?_
      refine zw_istore_n dX7_mostWithBlock_71 rfl (by decide) rfl rfl ?_
      refine zw_iinc (v := (v4 + (1 : Int32))) 5 dX7_mostWithBlock_72 rfl rfl (by decide) rfl rfl ?_
      refine zw_goto (np := 5) dX7_mostWithBlock_75 (by decide) ?_
      exact zw.sub [3, 4, 5, 1, 0] rfl K

set_option maxRecDepth 100000 in
set_option maxHeartbeats 4000000 in
theorem rX7_isBelow_0 {q : Int32 → zw_H → Prop} {h : zw_H} {v0 v1 : Int32} (K : ((¬ (v0 &&& (v1 ^^^ (-1 : Int32))) = 0 → q (0 : Int32) h) ∧ ((v0 &&& (v1 ^^^ (-1 : Int32))) = 0 → q (1 : Int32) h))) : zwI 0 mX7_isBelow q 0 [(0, .int v0), (1, .int v1)] [] h := by
  refine zw_iload_n 0 dX7_isBelow_0 rfl rfl rfl ?_
  refine zw_iload_n 1 dX7_isBelow_1 rfl rfl rfl ?_
  refine zw_iconst (v := (-1 : Int32)) dX7_isBelow_2 (by decide) rfl ?_
  refine zw_ixor dX7_isBelow_3 rfl ?_
  refine zw_iand dX7_isBelow_4 rfl ?_
  refine zw_if_ne (tg := 12) dX7_isBelow_5 (by decide) rfl (fun c => ?_) (fun c => ?_)
  · have K := K.1 c
    refine zw_iconst (v := (0 : Int32)) dX7_isBelow_12 (by decide) rfl ?_
    exact zw_ireturn (ty := .boolean) dX7_isBelow_13 rfl rfl (Nat.le_refl 0) (Nat.le_refl 0) ⟨_, rfl, rfl, K⟩
  · have K := K.2 c
    refine zw_iconst (v := (1 : Int32)) dX7_isBelow_8 (by decide) rfl ?_
    refine zw_goto (np := 13) dX7_isBelow_9 (by decide) ?_
    exact zw_ireturn (ty := .boolean) dX7_isBelow_13 rfl rfl (Nat.le_refl 0) (Nat.le_refl 0) ⟨_, rfl, rfl, K⟩

set_option maxRecDepth 100000 in
set_option maxHeartbeats 4000000 in
theorem rX7_withBits_0 {q : Int32 → zw_H → Prop} {h : zw_H} {v0 v1 v2 : Int32} (K : ((v2 = 0 → q (v0 &&& (v1 ^^^ (-1 : Int32))) h) ∧ (¬ v2 = 0 → q (v0 ||| v1) h))) : zwI 0 mX7_withBits q 0 [(0, .int v0), (1, .int v1), (2, .int v2)] [] h := by
  refine zw_iload_n 2 dX7_withBits_0 rfl rfl rfl ?_
  refine zw_if_eq (tg := 10) dX7_withBits_1 (by decide) rfl (fun c => ?_) (fun c => ?_)
  · have K := K.1 c
    refine zw_iload_n 0 dX7_withBits_10 rfl rfl rfl ?_
    refine zw_iload_n 1 dX7_withBits_11 rfl rfl rfl ?_
    refine zw_iconst (v := (-1 : Int32)) dX7_withBits_12 (by decide) rfl ?_
    refine zw_ixor dX7_withBits_13 rfl ?_
    refine zw_iand dX7_withBits_14 rfl ?_
    exact zw_ireturn (ty := .int) dX7_withBits_15 rfl rfl (Nat.le_refl 0) (Nat.le_refl 0) ⟨_, rfl, rfl, K⟩
  · have K := K.2 c
    refine zw_iload_n 0 dX7_withBits_4 rfl rfl rfl ?_
    refine zw_iload_n 1 dX7_withBits_5 rfl rfl rfl ?_
    refine zw_ior dX7_withBits_6 rfl ?_
    refine zw_goto (np := 15) dX7_withBits_7 (by decide) ?_
    exact zw_ireturn (ty := .int) dX7_withBits_15 rfl rfl (Nat.le_refl 0) (Nat.le_refl 0) ⟨_, rfl, rfl, K⟩

set_option maxRecDepth 100000 in
set_option maxHeartbeats 4000000 in
theorem rX7_pairBit_0 {q : Int32 → zw_H → Prop} {h : zw_H} {v0 v1 : Int32} (K : ((¬ v0 = v1 → ((v1 ≤ v0 → ((v1 ≤ v0 → q ((1 : Int32) <<< ((((((v1 * ((11 : Int32) - v1)) / (2 : Int32)) + v0) - v1) - (1 : Int32)) &&& 31)) h) ∧ (¬ v1 ≤ v0 → q ((1 : Int32) <<< ((((((v1 * ((11 : Int32) - v1)) / (2 : Int32)) + v1) - v1) - (1 : Int32)) &&& 31)) h))) ∧ (¬ v1 ≤ v0 → ((v1 ≤ v0 → q ((1 : Int32) <<< ((((((v0 * ((11 : Int32) - v0)) / (2 : Int32)) + v0) - v0) - (1 : Int32)) &&& 31)) h) ∧ (¬ v1 ≤ v0 → q ((1 : Int32) <<< ((((((v0 * ((11 : Int32) - v0)) / (2 : Int32)) + v1) - v0) - (1 : Int32)) &&& 31)) h))))) ∧ (v0 = v1 → q (0 : Int32) h))) : zwI 0 mX7_pairBit q 0 [(0, .int v0), (1, .int v1)] [] h := by
  refine zw_iload_n 0 dX7_pairBit_0 rfl rfl rfl ?_
  refine zw_iload_n 1 dX7_pairBit_1 rfl rfl rfl ?_
  refine zw_icmp_ne (tg := 7) dX7_pairBit_2 (by decide) rfl (fun c => ?_) (fun c => ?_)
  · have K := K.1 c
    refine zw_iload_n 0 dX7_pairBit_7 rfl rfl rfl ?_
    refine zw_iload_n 1 dX7_pairBit_8 rfl rfl rfl ?_
    refine zw_icmp_ge (tg := 16) dX7_pairBit_9 (by decide) rfl (fun c => ?_) (fun c => ?_)
    · have K := K.1 c
      refine zw_iload_n 1 dX7_pairBit_16 rfl rfl rfl ?_
      refine zw_istore_n dX7_pairBit_17 rfl (by decide) rfl rfl ?_
      refine zw_iload_n 1 dX7_pairBit_18 rfl rfl rfl ?_
      refine zw_iload_n 2 dX7_pairBit_19 rfl rfl rfl ?_
      refine zw_icmp_ge (tg := 27) dX7_pairBit_20 (by decide) rfl (fun c => ?_) (fun c => ?_)
      · have K := K.1 c
        refine zw_iload_n 1 dX7_pairBit_27 rfl rfl rfl ?_
        refine zw_istore_n dX7_pairBit_28 rfl (by decide) rfl rfl ?_
        refine zw_iconst (v := (1 : Int32)) dX7_pairBit_29 (by decide) rfl ?_
        refine zw_iload_n 1 dX7_pairBit_30 rfl rfl rfl ?_
        refine zw_bipush (v := (11 : Int32)) dX7_pairBit_31 (by decide) rfl ?_
        refine zw_iload_n 1 dX7_pairBit_33 rfl rfl rfl ?_
        refine zw_isub dX7_pairBit_34 rfl ?_
        refine zw_imul dX7_pairBit_35 rfl ?_
        refine zw_iconst (v := (2 : Int32)) dX7_pairBit_36 (by decide) rfl ?_
        refine zw_idiv dX7_pairBit_37 (by decide) rfl ?_
        refine zw_iload_n 0 dX7_pairBit_38 rfl rfl rfl ?_
        refine zw_iadd dX7_pairBit_39 rfl ?_
        refine zw_iload_n 1 dX7_pairBit_40 rfl rfl rfl ?_
        refine zw_isub dX7_pairBit_41 rfl ?_
        refine zw_iconst (v := (1 : Int32)) dX7_pairBit_42 (by decide) rfl ?_
        refine zw_isub dX7_pairBit_43 rfl ?_
        refine zw_ishl dX7_pairBit_44 rfl ?_
        exact zw_ireturn (ty := .int) dX7_pairBit_45 rfl rfl (Nat.le_refl 0) (Nat.le_refl 0) ⟨_, rfl, rfl, K⟩
      · have K := K.2 c
        refine zw_iload_n 2 dX7_pairBit_23 rfl rfl rfl ?_
        refine zw_goto (np := 28) dX7_pairBit_24 (by decide) ?_
        refine zw_istore_n dX7_pairBit_28 rfl (by decide) rfl rfl ?_
        refine zw_iconst (v := (1 : Int32)) dX7_pairBit_29 (by decide) rfl ?_
        refine zw_iload_n 1 dX7_pairBit_30 rfl rfl rfl ?_
        refine zw_bipush (v := (11 : Int32)) dX7_pairBit_31 (by decide) rfl ?_
        refine zw_iload_n 1 dX7_pairBit_33 rfl rfl rfl ?_
        refine zw_isub dX7_pairBit_34 rfl ?_
        refine zw_imul dX7_pairBit_35 rfl ?_
        refine zw_iconst (v := (2 : Int32)) dX7_pairBit_36 (by decide) rfl ?_
        refine zw_idiv dX7_pairBit_37 (by decide) rfl ?_
        refine zw_iload_n 0 dX7_pairBit_38 rfl rfl rfl ?_
        refine zw_iadd dX7_pairBit_39 rfl ?_
        refine zw_iload_n 1 dX7_pairBit_40 rfl rfl rfl ?_
        refine zw_isub dX7_pairBit_41 rfl ?_
        refine zw_iconst (v := (1 : Int32)) dX7_pairBit_42 (by decide) rfl ?_
        refine zw_isub dX7_pairBit_43 rfl ?_
        refine zw_ishl dX7_pairBit_44 rfl ?_
        exact zw_ireturn (ty := .int) dX7_pairBit_45 rfl rfl (Nat.le_refl 0) (Nat.le_refl 0) ⟨_, rfl, rfl, K⟩
    · have K := K.2 c
      refine zw_iload_n 0 dX7_pairBit_12 rfl rfl rfl ?_
      refine zw_goto (np := 17) dX7_pairBit_13 (by decide) ?_
      refine zw_istore_n dX7_pairBit_17 rfl (by decide) rfl rfl ?_
      refine zw_iload_n 1 dX7_pairBit_18 rfl rfl rfl ?_
      refine zw_iload_n 2 dX7_pairBit_19 rfl rfl rfl ?_
      refine zw_icmp_ge (tg := 27) dX7_pairBit_20 (by decide) rfl (fun c => ?_) (fun c => ?_)
      · have K := K.1 c
        refine zw_iload_n 1 dX7_pairBit_27 rfl rfl rfl ?_
        refine zw_istore_n dX7_pairBit_28 rfl (by decide) rfl rfl ?_
        refine zw_iconst (v := (1 : Int32)) dX7_pairBit_29 (by decide) rfl ?_
        refine zw_iload_n 1 dX7_pairBit_30 rfl rfl rfl ?_
        refine zw_bipush (v := (11 : Int32)) dX7_pairBit_31 (by decide) rfl ?_
        refine zw_iload_n 1 dX7_pairBit_33 rfl rfl rfl ?_
        refine zw_isub dX7_pairBit_34 rfl ?_
        refine zw_imul dX7_pairBit_35 rfl ?_
        refine zw_iconst (v := (2 : Int32)) dX7_pairBit_36 (by decide) rfl ?_
        refine zw_idiv dX7_pairBit_37 (by decide) rfl ?_
        refine zw_iload_n 0 dX7_pairBit_38 rfl rfl rfl ?_
        refine zw_iadd dX7_pairBit_39 rfl ?_
        refine zw_iload_n 1 dX7_pairBit_40 rfl rfl rfl ?_
        refine zw_isub dX7_pairBit_41 rfl ?_
        refine zw_iconst (v := (1 : Int32)) dX7_pairBit_42 (by decide) rfl ?_
        refine zw_isub dX7_pairBit_43 rfl ?_
        refine zw_ishl dX7_pairBit_44 rfl ?_
        exact zw_ireturn (ty := .int) dX7_pairBit_45 rfl rfl (Nat.le_refl 0) (Nat.le_refl 0) ⟨_, rfl, rfl, K⟩
      · have K := K.2 c
        refine zw_iload_n 2 dX7_pairBit_23 rfl rfl rfl ?_
        refine zw_goto (np := 28) dX7_pairBit_24 (by decide) ?_
        refine zw_istore_n dX7_pairBit_28 rfl (by decide) rfl rfl ?_
        refine zw_iconst (v := (1 : Int32)) dX7_pairBit_29 (by decide) rfl ?_
        refine zw_iload_n 1 dX7_pairBit_30 rfl rfl rfl ?_
        refine zw_bipush (v := (11 : Int32)) dX7_pairBit_31 (by decide) rfl ?_
        refine zw_iload_n 1 dX7_pairBit_33 rfl rfl rfl ?_
        refine zw_isub dX7_pairBit_34 rfl ?_
        refine zw_imul dX7_pairBit_35 rfl ?_
        refine zw_iconst (v := (2 : Int32)) dX7_pairBit_36 (by decide) rfl ?_
        refine zw_idiv dX7_pairBit_37 (by decide) rfl ?_
        refine zw_iload_n 0 dX7_pairBit_38 rfl rfl rfl ?_
        refine zw_iadd dX7_pairBit_39 rfl ?_
        refine zw_iload_n 1 dX7_pairBit_40 rfl rfl rfl ?_
        refine zw_isub dX7_pairBit_41 rfl ?_
        refine zw_iconst (v := (1 : Int32)) dX7_pairBit_42 (by decide) rfl ?_
        refine zw_isub dX7_pairBit_43 rfl ?_
        refine zw_ishl dX7_pairBit_44 rfl ?_
        exact zw_ireturn (ty := .int) dX7_pairBit_45 rfl rfl (Nat.le_refl 0) (Nat.le_refl 0) ⟨_, rfl, rfl, K⟩
  · have K := K.2 c
    refine zw_iconst (v := (0 : Int32)) dX7_pairBit_5 (by decide) rfl ?_
    exact zw_ireturn (ty := .int) dX7_pairBit_6 rfl rfl (Nat.le_refl 0) (Nat.le_refl 0) ⟨_, rfl, rfl, K⟩

set_option maxRecDepth 100000 in
set_option maxHeartbeats 4000000 in
theorem rX7_pairsWith_0 {q : Int32 → zw_H → Prop} {h : zw_H} {v0 v1 : Int32} (K : zwI 1 mX7_pairsWith q 4 [(0, .int v0), (1, .int v1), (2, .int (0 : Int32)), (3, .int (0 : Int32))] [] h) : zwI 1 mX7_pairsWith q 0 [(0, .int v0), (1, .int v1)] [] h := by
  refine zw_iconst (v := (0 : Int32)) dX7_pairsWith_0 (by decide) rfl ?_
  refine zw_istore_n dX7_pairsWith_1 rfl (by decide) rfl rfl ?_
  refine zw_iconst (v := (0 : Int32)) dX7_pairsWith_2 (by decide) rfl ?_
  refine zw_istore_n dX7_pairsWith_3 rfl (by decide) rfl rfl ?_
  exact zw.sub [2, 3, 1, 0] rfl K

set_option maxRecDepth 100000 in
set_option maxHeartbeats 4000000 in
theorem rX7_pairsWith_4 {q : Int32 → zw_H → Prop} {h : zw_H} {v0 v1 v2 v3 : Int32} (K : (((6 : Int32) ≤ v3 → q v2 h) ∧ (¬ (6 : Int32) ≤ v3 → ((((v0 >>> (v3 &&& 31)) &&& (1 : Int32)) = 0 → zwI 1 mX7_pairsWith q 4 [(0, .int v0), (1, .int v1), (2, .int v2), (3, .int (v3 + (1 : Int32)))] [] h) ∧ (¬ ((v0 >>> (v3 &&& 31)) &&& (1 : Int32)) = 0 → (∃ q1 : Int32 → zw_H → Prop, zcI 0 mX7_pairBit [.int v1, .int v3] h q1 ∧ (∀ (x1 : Int32) (h1 : zw_H), q1 x1 h1 → zwI 1 mX7_pairsWith q 4 [(0, .int v0), (1, .int v1), (2, .int (v2 ||| x1)), (3, .int (v3 + (1 : Int32)))] [] h1))))))) : zwI 1 mX7_pairsWith q 4 [(0, .int v0), (1, .int v1), (2, .int v2), (3, .int v3)] [] h := by
  refine zw_iload_n 3 dX7_pairsWith_4 rfl rfl rfl ?_
  refine zw_bipush (v := (6 : Int32)) dX7_pairsWith_5 (by decide) rfl ?_
  refine zw_icmp_ge (tg := 32) dX7_pairsWith_7 (by decide) rfl (fun c => ?_) (fun c => ?_)
  · have K := K.1 c
    refine zw_iload_n 2 dX7_pairsWith_32 rfl rfl rfl ?_
    exact zw_ireturn (ty := .int) dX7_pairsWith_33 rfl rfl (Nat.le_refl 0) (Nat.le_refl 0) ⟨_, rfl, rfl, K⟩
  · have K := K.2 c
    refine zw_iload_n 0 dX7_pairsWith_10 rfl rfl rfl ?_
    refine zw_iload_n 3 dX7_pairsWith_11 rfl rfl rfl ?_
    refine zw_ishr dX7_pairsWith_12 rfl ?_
    refine zw_iconst (v := (1 : Int32)) dX7_pairsWith_13 (by decide) rfl ?_
    refine zw_iand dX7_pairsWith_14 rfl ?_
    refine zw_if_eq (tg := 26) dX7_pairsWith_15 (by decide) rfl (fun c => ?_) (fun c => ?_)
    · have K := K.1 c
      refine zw_iinc (v := (v3 + (1 : Int32))) 3 dX7_pairsWith_26 rfl rfl (by decide) rfl rfl ?_
      refine zw_goto (np := 4) dX7_pairsWith_29 (by decide) ?_
      exact zw.sub [1, 2, 3, 0] rfl K
    · have K := K.2 c
      refine zw_iload_n 2 dX7_pairsWith_18 rfl rfl rfl ?_
      refine zw_iload_n 1 dX7_pairsWith_19 rfl rfl rfl ?_
      refine zw_iload_n 3 dX7_pairsWith_20 rfl rfl rfl ?_
      obtain ⟨q1, ct, K⟩ := K
      refine zw_callS (n := 2) (As := [.int v1, .int v3]) (rest := [.int v2]) ct my_X7_pairBit rfl rfl k_X7_97 t_X7_pairBit dX7_pairsWith_21 (by decide) (Nat.le_of_ble_eq_true rfl) (Nat.le_refl 0) (Nat.le_refl 0) rfl (fun r s1 h1 hq => ?_)
      obtain ⟨x1, rfl, rfl, hq⟩ := hq
      have K := K x1 h1 hq
      refine zw.st (st' := [.int x1, .int v2]) rfl ?_
      refine zw_ior dX7_pairsWith_24 rfl ?_
      refine zw_istore_n dX7_pairsWith_25 rfl (by decide) rfl rfl ?_
      refine zw_iinc (v := (v3 + (1 : Int32))) 3 dX7_pairsWith_26 rfl rfl (by decide) rfl rfl ?_
      refine zw_goto (np := 4) dX7_pairsWith_29 (by decide) ?_
      exact zw.sub [2, 3, 1, 0] rfl K

set_option maxRecDepth 100000 in
set_option maxHeartbeats 4000000 in
theorem rX7_allPairs_0 {q : Int32 → zw_H → Prop} {h : zw_H} {v0 : Int32} (K : zwI 0 mX7_allPairs q 4 [(0, .int v0), (1, .int (0 : Int32)), (2, .int (0 : Int32))] [] h) : zwI 0 mX7_allPairs q 0 [(0, .int v0)] [] h := by
  refine zw_iconst (v := (0 : Int32)) dX7_allPairs_0 (by decide) rfl ?_
  refine zw_istore_n dX7_allPairs_1 rfl (by decide) rfl rfl ?_
  refine zw_iconst (v := (0 : Int32)) dX7_allPairs_2 (by decide) rfl ?_
  refine zw_istore_n dX7_allPairs_3 rfl (by decide) rfl rfl ?_
  exact zw.sub [2, 1, 0] rfl K

set_option maxRecDepth 100000 in
set_option maxHeartbeats 4000000 in
theorem rX7_allPairs_4 {q : Int32 → zw_H → Prop} {h : zw_H} {v0 v1 v2 : Int32} (K : (((15 : Int32) ≤ v2 → q v1 h) ∧ (¬ (15 : Int32) ≤ v2 → (∃ j1 : Nat, v2 = nI j1 ∧ j1 < 15 ∧ ((v0 ≤ (zw_great j1) → zwI 0 mX7_allPairs q 4 [(0, .int v0), (1, .int v1), (2, .int (v2 + (1 : Int32)))] [] h) ∧ (¬ v0 ≤ (zw_great j1) → zwI 0 mX7_allPairs q 4 [(0, .int v0), (1, .int (v1 ||| ((1 : Int32) <<< (v2 &&& 31)))), (2, .int (v2 + (1 : Int32)))] [] h)))))) : zwI 0 mX7_allPairs q 4 [(0, .int v0), (1, .int v1), (2, .int v2)] [] h := by
  refine zw_iload_n 2 dX7_allPairs_4 rfl rfl rfl ?_
  refine zw_bipush (v := (15 : Int32)) dX7_allPairs_5 (by decide) rfl ?_
  refine zw_icmp_ge (tg := 31) dX7_allPairs_7 (by decide) rfl (fun c => ?_) (fun c => ?_)
  · have K := K.1 c
    refine zw_iload_n 1 dX7_allPairs_31 rfl rfl rfl ?_
    exact zw_ireturn (ty := .int) dX7_allPairs_32 rfl rfl (Nat.le_refl 0) (Nat.le_refl 0) ⟨_, rfl, rfl, K⟩
  · have K := K.2 c
    refine zw_getG g_X7_340 dX7_allPairs_10 rfl ?_
    refine zw_iload_n 2 dX7_allPairs_13 rfl rfl rfl ?_
    obtain ⟨j1, hj1, hn1, K⟩ := K
    refine zw_ialdG j1 dX7_allPairs_14 ⟨hj1, hn1⟩ rfl ?_
    refine zw_iload_n 0 dX7_allPairs_15 rfl rfl rfl ?_
    refine zw_icmp_ge (tg := 25) dX7_allPairs_16 (by decide) rfl (fun c => ?_) (fun c => ?_)
    · have K := K.1 c
      refine zw_iinc (v := (v2 + (1 : Int32))) 2 dX7_allPairs_25 rfl rfl (by decide) rfl rfl ?_
      refine zw_goto (np := 4) dX7_allPairs_28 (by decide) ?_
      exact zw.sub [1, 2, 0] rfl K
    · have K := K.2 c
      refine zw_iload_n 1 dX7_allPairs_19 rfl rfl rfl ?_
      refine zw_iconst (v := (1 : Int32)) dX7_allPairs_20 (by decide) rfl ?_
      refine zw_iload_n 2 dX7_allPairs_21 rfl rfl rfl ?_
      refine zw_ishl dX7_allPairs_22 rfl ?_
      refine zw_ior dX7_allPairs_23 rfl ?_
      refine zw_istore_n dX7_allPairs_24 rfl (by decide) rfl rfl ?_
      refine zw_iinc (v := (v2 + (1 : Int32))) 2 dX7_allPairs_25 rfl rfl (by decide) rfl rfl ?_
      refine zw_goto (np := 4) dX7_allPairs_28 (by decide) ?_
      exact zw.sub [2, 1, 0] rfl K

set_option maxRecDepth 100000 in
set_option maxHeartbeats 4000000 in
theorem rX7_firstPair_0 {q : Int32 → zw_H → Prop} {h : zw_H} {v0 : Int32} (K : zwI 0 mX7_firstPair q 2 [(0, .int v0), (1, .int (0 : Int32))] [] h) : zwI 0 mX7_firstPair q 0 [(0, .int v0)] [] h := by
  refine zw_iconst (v := (0 : Int32)) dX7_firstPair_0 (by decide) rfl ?_
  refine zw_istore_n dX7_firstPair_1 rfl (by decide) rfl rfl ?_
  exact zw.sub [1, 0] rfl K

set_option maxRecDepth 100000 in
set_option maxHeartbeats 4000000 in
theorem rX7_firstPair_2 {q : Int32 → zw_H → Prop} {h : zw_H} {v0 v1 : Int32} (K : (((15 : Int32) ≤ v1 → q (-9 : Int32) h) ∧ (¬ (15 : Int32) ≤ v1 → ((((v0 >>> (v1 &&& 31)) &&& (1 : Int32)) = 0 → zwI 0 mX7_firstPair q 2 [(0, .int v0), (1, .int (v1 + (1 : Int32)))] [] h) ∧ (¬ ((v0 >>> (v1 &&& 31)) &&& (1 : Int32)) = 0 → (∃ j1 : Nat, v1 = nI j1 ∧ j1 < 15 ∧ (∃ j2 : Nat, v1 = nI j2 ∧ j2 < 15 ∧ q (((10 : Int32) * (zw_small j1)) + (zw_great j2)) h))))))) : zwI 0 mX7_firstPair q 2 [(0, .int v0), (1, .int v1)] [] h := by
  refine zw_iload_n 1 dX7_firstPair_2 rfl rfl rfl ?_
  refine zw_bipush (v := (15 : Int32)) dX7_firstPair_3 (by decide) rfl ?_
  refine zw_icmp_ge (tg := 37) dX7_firstPair_5 (by decide) rfl (fun c => ?_) (fun c => ?_)
  · have K := K.1 c
    refine zw_bipush (v := (-9 : Int32)) dX7_firstPair_37 (by decide) rfl ?_
    exact zw_ireturn (ty := .int) dX7_firstPair_39 rfl rfl (Nat.le_refl 0) (Nat.le_refl 0) ⟨_, rfl, rfl, K⟩
  · have K := K.2 c
    refine zw_iload_n 0 dX7_firstPair_8 rfl rfl rfl ?_
    refine zw_iload_n 1 dX7_firstPair_9 rfl rfl rfl ?_
    refine zw_ishr dX7_firstPair_10 rfl ?_
    refine zw_iconst (v := (1 : Int32)) dX7_firstPair_11 (by decide) rfl ?_
    refine zw_iand dX7_firstPair_12 rfl ?_
    refine zw_if_eq (tg := 31) dX7_firstPair_13 (by decide) rfl (fun c => ?_) (fun c => ?_)
    · have K := K.1 c
      refine zw_iinc (v := (v1 + (1 : Int32))) 1 dX7_firstPair_31 rfl rfl (by decide) rfl rfl ?_
      refine zw_goto (np := 2) dX7_firstPair_34 (by decide) ?_
      exact zw.sub [1, 0] rfl K
    · have K := K.2 c
      refine zw_bipush (v := (10 : Int32)) dX7_firstPair_16 (by decide) rfl ?_
      refine zw_getS g_X7_337 dX7_firstPair_18 rfl ?_
      refine zw_iload_n 1 dX7_firstPair_21 rfl rfl rfl ?_
      obtain ⟨j1, hj1, hn1, K⟩ := K
      refine zw_ialdS j1 dX7_firstPair_22 ⟨hj1, hn1⟩ rfl ?_
      refine zw_imul dX7_firstPair_23 rfl ?_
      refine zw_getG g_X7_340 dX7_firstPair_24 rfl ?_
      refine zw_iload_n 1 dX7_firstPair_27 rfl rfl rfl ?_
      obtain ⟨j2, hj2, hn2, K⟩ := K
      refine zw_ialdG j2 dX7_firstPair_28 ⟨hj2, hn2⟩ rfl ?_
      refine zw_iadd dX7_firstPair_29 rfl ?_
      exact zw_ireturn (ty := .int) dX7_firstPair_30 rfl rfl (Nat.le_refl 0) (Nat.le_refl 0) ⟨_, rfl, rfl, K⟩

set_option maxRecDepth 100000 in
set_option maxHeartbeats 4000000 in
theorem rX7_complementOf_0 {q : Int32 → zw_H → Prop} {h : zw_H} {v0 v1 : Int32} (K : zwI 1 mX7_complementOf q 4 [(0, .int v0), (1, .int v1), (2, .int (0 : Int32)), (3, .int (0 : Int32))] [] h) : zwI 1 mX7_complementOf q 0 [(0, .int v0), (1, .int v1)] [] h := by
  refine zw_iconst (v := (0 : Int32)) dX7_complementOf_0 (by decide) rfl ?_
  refine zw_istore_n dX7_complementOf_1 rfl (by decide) rfl rfl ?_
  refine zw_iconst (v := (0 : Int32)) dX7_complementOf_2 (by decide) rfl ?_
  refine zw_istore_n dX7_complementOf_3 rfl (by decide) rfl rfl ?_
  exact zw.sub [2, 3, 1, 0] rfl K

set_option maxRecDepth 100000 in
set_option maxHeartbeats 4000000 in
theorem rX7_complementOf_4 {q : Int32 → zw_H → Prop} {h : zw_H} {v0 v1 v2 v3 : Int32} (K : (((15 : Int32) ≤ v3 → q v2 h) ∧ (¬ (15 : Int32) ≤ v3 → (∃ j1 : Nat, v3 = nI j1 ∧ j1 < 15 ∧ ((v1 ≤ (zw_great j1) → zwI 1 mX7_complementOf q 4 [(0, .int v0), (1, .int v1), (2, .int v2), (3, .int (v3 + (1 : Int32)))] [] h) ∧ (¬ v1 ≤ (zw_great j1) → (∃ j2 : Nat, v3 = nI j2 ∧ j2 < 15 ∧ (∃ j3 : Nat, v3 = nI j3 ∧ j3 < 15 ∧ (∃ q4 : Int32 → zw_H → Prop, zcI 0 mX7_isSplit [.int v0, .int (zw_small j2), .int (zw_great j3)] h q4 ∧ (∀ (x4 : Int32) (h4 : zw_H), q4 x4 h4 → ((¬ x4 = 0 → zwI 1 mX7_complementOf q 4 [(0, .int v0), (1, .int v1), (2, .int v2), (3, .int (v3 + (1 : Int32)))] [] h4) ∧ (x4 = 0 → zwI 1 mX7_complementOf q 4 [(0, .int v0), (1, .int v1), (2, .int (v2 ||| ((1 : Int32) <<< (v3 &&& 31)))), (3, .int (v3 + (1 : Int32)))] [] h4)))))))))))) : zwI 1 mX7_complementOf q 4 [(0, .int v0), (1, .int v1), (2, .int v2), (3, .int v3)] [] h := by
  refine zw_iload_n 3 dX7_complementOf_4 rfl rfl rfl ?_
  refine zw_bipush (v := (15 : Int32)) dX7_complementOf_5 (by decide) rfl ?_
  refine zw_icmp_ge (tg := 48) dX7_complementOf_7 (by decide) rfl (fun c => ?_) (fun c => ?_)
  · have K := K.1 c
    refine zw_iload_n 2 dX7_complementOf_48 rfl rfl rfl ?_
    exact zw_ireturn (ty := .int) dX7_complementOf_49 rfl rfl (Nat.le_refl 0) (Nat.le_refl 0) ⟨_, rfl, rfl, K⟩
  · have K := K.2 c
    refine zw_getG g_X7_340 dX7_complementOf_10 rfl ?_
    refine zw_iload_n 3 dX7_complementOf_13 rfl rfl rfl ?_
    obtain ⟨j1, hj1, hn1, K⟩ := K
    refine zw_ialdG j1 dX7_complementOf_14 ⟨hj1, hn1⟩ rfl ?_
    refine zw_iload_n 1 dX7_complementOf_15 rfl rfl rfl ?_
    refine zw_icmp_ge (tg := 42) dX7_complementOf_16 (by decide) rfl (fun c => ?_) (fun c => ?_)
    · have K := K.1 c
      refine zw_iinc (v := (v3 + (1 : Int32))) 3 dX7_complementOf_42 rfl rfl (by decide) rfl rfl ?_
      refine zw_goto (np := 4) dX7_complementOf_45 (by decide) ?_
      exact zw.sub [1, 2, 3, 0] rfl K
    · have K := K.2 c
      refine zw_iload_n 0 dX7_complementOf_19 rfl rfl rfl ?_
      refine zw_getS g_X7_337 dX7_complementOf_20 rfl ?_
      refine zw_iload_n 3 dX7_complementOf_23 rfl rfl rfl ?_
      obtain ⟨j2, hj2, hn2, K⟩ := K
      refine zw_ialdS j2 dX7_complementOf_24 ⟨hj2, hn2⟩ rfl ?_
      refine zw_getG g_X7_340 dX7_complementOf_25 rfl ?_
      refine zw_iload_n 3 dX7_complementOf_28 rfl rfl rfl ?_
      obtain ⟨j3, hj3, hn3, K⟩ := K
      refine zw_ialdG j3 dX7_complementOf_29 ⟨hj3, hn3⟩ rfl ?_
      obtain ⟨q4, ct, K⟩ := K
      refine zw_callS (n := 3) (As := [.int v0, .int (zw_small j2), .int (zw_great j3)]) (rest := []) ct my_X7_isSplit rfl rfl k_X7_354 t_X7_isSplit dX7_complementOf_30 (by decide) (Nat.le_of_ble_eq_true rfl) (Nat.le_refl 0) (Nat.le_refl 0) rfl (fun r s1 h4 hq => ?_)
      obtain ⟨x4, rfl, rfl, hq⟩ := hq
      have K := K x4 h4 hq
      refine zw.st (st' := [.int x4]) rfl ?_
      refine zw_if_ne (tg := 42) dX7_complementOf_33 (by decide) rfl (fun c => ?_) (fun c => ?_)
      · have K := K.1 c
        refine zw_iinc (v := (v3 + (1 : Int32))) 3 dX7_complementOf_42 rfl rfl (by decide) rfl rfl ?_
        refine zw_goto (np := 4) dX7_complementOf_45 (by decide) ?_
        exact zw.sub [1, 2, 3, 0] rfl K
      · have K := K.2 c
        refine zw_iload_n 2 dX7_complementOf_36 rfl rfl rfl ?_
        refine zw_iconst (v := (1 : Int32)) dX7_complementOf_37 (by decide) rfl ?_
        refine zw_iload_n 3 dX7_complementOf_38 rfl rfl rfl ?_
        refine zw_ishl dX7_complementOf_39 rfl ?_
        refine zw_ior dX7_complementOf_40 rfl ?_
        refine zw_istore_n dX7_complementOf_41 rfl (by decide) rfl rfl ?_
        refine zw_iinc (v := (v3 + (1 : Int32))) 3 dX7_complementOf_42 rfl rfl (by decide) rfl rfl ?_
        refine zw_goto (np := 4) dX7_complementOf_45 (by decide) ?_
        exact zw.sub [2, 3, 1, 0] rfl K

set_option maxRecDepth 100000 in
set_option maxHeartbeats 4000000 in
theorem rX7_isSplit_0 {q : Int32 → zw_H → Prop} {h : zw_H} {v0 v1 v2 : Int32} (K : zwI 0 mX7_isSplit q 2 [(0, .int v0), (1, .int v1), (2, .int v2), (3, .int (0 : Int32))] [] h) : zwI 0 mX7_isSplit q 0 [(0, .int v0), (1, .int v1), (2, .int v2)] [] h := by
  refine zw_iconst (v := (0 : Int32)) dX7_isSplit_0 (by decide) rfl ?_
  refine zw_istore_n dX7_isSplit_1 rfl (by decide) rfl rfl ?_
  exact zw.sub [1, 2, 3, 0] rfl K

set_option maxRecDepth 100000 in
set_option maxHeartbeats 4000000 in
theorem rX7_isSplit_2 {q : Int32 → zw_H → Prop} {h : zw_H} {v0 v1 v2 v3 : Int32} (K : (((15 : Int32) ≤ v3 → q (0 : Int32) h) ∧ (¬ (15 : Int32) ≤ v3 → (∃ j1 : Nat, v3 = nI j1 ∧ j1 < 15 ∧ (((zw_small j1) ≤ v1 → (∃ j2 : Nat, v3 = nI j2 ∧ j2 < 15 ∧ (((zw_great j2) ≤ v1 → ((((v0 >>> (v3 &&& 31)) &&& (1 : Int32)) = 0 → zwI 0 mX7_isSplit q 2 [(0, .int v0), (1, .int v1), (2, .int v2), (3, .int (v3 + (1 : Int32)))] [] h) ∧ (¬ ((v0 >>> (v3 &&& 31)) &&& (1 : Int32)) = 0 → (((0 : Int32) = (0 : Int32) → zwI 0 mX7_isSplit q 2 [(0, .int v0), (1, .int v1), (2, .int v2), (3, .int (v3 + (1 : Int32)))] [] h) ∧ (¬ (0 : Int32) = (0 : Int32) → q (1 : Int32) h))))) ∧ (¬ (zw_great j2) ≤ v1 → (∃ j3 : Nat, v3 = nI j3 ∧ j3 < 15 ∧ ((v2 < (zw_great j3) → ((((v0 >>> (v3 &&& 31)) &&& (1 : Int32)) = 0 → zwI 0 mX7_isSplit q 2 [(0, .int v0), (1, .int v1), (2, .int v2), (3, .int (v3 + (1 : Int32)))] [] h) ∧ (¬ ((v0 >>> (v3 &&& 31)) &&& (1 : Int32)) = 0 → (((0 : Int32) = (0 : Int32) → zwI 0 mX7_isSplit q 2 [(0, .int v0), (1, .int v1), (2, .int v2), (3, .int (v3 + (1 : Int32)))] [] h) ∧ (¬ (0 : Int32) = (0 : Int32) → q (1 : Int32) h))))) ∧ (¬ v2 < (zw_great j3) → ((((v0 >>> (v3 &&& 31)) &&& (1 : Int32)) = 0 → zwI 0 mX7_isSplit q 2 [(0, .int v0), (1, .int v1), (2, .int v2), (3, .int (v3 + (1 : Int32)))] [] h) ∧ (¬ ((v0 >>> (v3 &&& 31)) &&& (1 : Int32)) = 0 → (((0 : Int32) = (1 : Int32) → zwI 0 mX7_isSplit q 2 [(0, .int v0), (1, .int v1), (2, .int v2), (3, .int (v3 + (1 : Int32)))] [] h) ∧ (¬ (0 : Int32) = (1 : Int32) → q (1 : Int32) h))))))))))) ∧ (¬ (zw_small j1) ≤ v1 → (∃ j4 : Nat, v3 = nI j4 ∧ j4 < 15 ∧ ((v2 < (zw_small j4) → (∃ j5 : Nat, v3 = nI j5 ∧ j5 < 15 ∧ (((zw_great j5) ≤ v1 → ((((v0 >>> (v3 &&& 31)) &&& (1 : Int32)) = 0 → zwI 0 mX7_isSplit q 2 [(0, .int v0), (1, .int v1), (2, .int v2), (3, .int (v3 + (1 : Int32)))] [] h) ∧ (¬ ((v0 >>> (v3 &&& 31)) &&& (1 : Int32)) = 0 → (((0 : Int32) = (0 : Int32) → zwI 0 mX7_isSplit q 2 [(0, .int v0), (1, .int v1), (2, .int v2), (3, .int (v3 + (1 : Int32)))] [] h) ∧ (¬ (0 : Int32) = (0 : Int32) → q (1 : Int32) h))))) ∧ (¬ (zw_great j5) ≤ v1 → (∃ j6 : Nat, v3 = nI j6 ∧ j6 < 15 ∧ ((v2 < (zw_great j6) → ((((v0 >>> (v3 &&& 31)) &&& (1 : Int32)) = 0 → zwI 0 mX7_isSplit q 2 [(0, .int v0), (1, .int v1), (2, .int v2), (3, .int (v3 + (1 : Int32)))] [] h) ∧ (¬ ((v0 >>> (v3 &&& 31)) &&& (1 : Int32)) = 0 → (((0 : Int32) = (0 : Int32) → zwI 0 mX7_isSplit q 2 [(0, .int v0), (1, .int v1), (2, .int v2), (3, .int (v3 + (1 : Int32)))] [] h) ∧ (¬ (0 : Int32) = (0 : Int32) → q (1 : Int32) h))))) ∧ (¬ v2 < (zw_great j6) → ((((v0 >>> (v3 &&& 31)) &&& (1 : Int32)) = 0 → zwI 0 mX7_isSplit q 2 [(0, .int v0), (1, .int v1), (2, .int v2), (3, .int (v3 + (1 : Int32)))] [] h) ∧ (¬ ((v0 >>> (v3 &&& 31)) &&& (1 : Int32)) = 0 → (((0 : Int32) = (1 : Int32) → zwI 0 mX7_isSplit q 2 [(0, .int v0), (1, .int v1), (2, .int v2), (3, .int (v3 + (1 : Int32)))] [] h) ∧ (¬ (0 : Int32) = (1 : Int32) → q (1 : Int32) h))))))))))) ∧ (¬ v2 < (zw_small j4) → (∃ j7 : Nat, v3 = nI j7 ∧ j7 < 15 ∧ (((zw_great j7) ≤ v1 → ((((v0 >>> (v3 &&& 31)) &&& (1 : Int32)) = 0 → zwI 0 mX7_isSplit q 2 [(0, .int v0), (1, .int v1), (2, .int v2), (3, .int (v3 + (1 : Int32)))] [] h) ∧ (¬ ((v0 >>> (v3 &&& 31)) &&& (1 : Int32)) = 0 → (((1 : Int32) = (0 : Int32) → zwI 0 mX7_isSplit q 2 [(0, .int v0), (1, .int v1), (2, .int v2), (3, .int (v3 + (1 : Int32)))] [] h) ∧ (¬ (1 : Int32) = (0 : Int32) → q (1 : Int32) h))))) ∧ (¬ (zw_great j7) ≤ v1 → (∃ j8 : Nat, v3 = nI j8 ∧ j8 < 15 ∧ ((v2 < (zw_great j8) → ((((v0 >>> (v3 &&& 31)) &&& (1 : Int32)) = 0 → zwI 0 mX7_isSplit q 2 [(0, .int v0), (1, .int v1), (2, .int v2), (3, .int (v3 + (1 : Int32)))] [] h) ∧ (¬ ((v0 >>> (v3 &&& 31)) &&& (1 : Int32)) = 0 → (((1 : Int32) = (0 : Int32) → zwI 0 mX7_isSplit q 2 [(0, .int v0), (1, .int v1), (2, .int v2), (3, .int (v3 + (1 : Int32)))] [] h) ∧ (¬ (1 : Int32) = (0 : Int32) → q (1 : Int32) h))))) ∧ (¬ v2 < (zw_great j8) → ((((v0 >>> (v3 &&& 31)) &&& (1 : Int32)) = 0 → zwI 0 mX7_isSplit q 2 [(0, .int v0), (1, .int v1), (2, .int v2), (3, .int (v3 + (1 : Int32)))] [] h) ∧ (¬ ((v0 >>> (v3 &&& 31)) &&& (1 : Int32)) = 0 → (((1 : Int32) = (1 : Int32) → zwI 0 mX7_isSplit q 2 [(0, .int v0), (1, .int v1), (2, .int v2), (3, .int (v3 + (1 : Int32)))] [] h) ∧ (¬ (1 : Int32) = (1 : Int32) → q (1 : Int32) h))))))))))))))))))) : zwI 0 mX7_isSplit q 2 [(0, .int v0), (1, .int v1), (2, .int v2), (3, .int v3)] [] h := by
  refine zw_iload_n 3 dX7_isSplit_2 rfl rfl rfl ?_
  refine zw_bipush (v := (15 : Int32)) dX7_isSplit_3 (by decide) rfl ?_
  refine zw_icmp_ge (tg := 81) dX7_isSplit_5 (by decide) rfl (fun c => ?_) (fun c => ?_)
  · have K := K.1 c
    refine zw_iconst (v := (0 : Int32)) dX7_isSplit_81 (by decide) rfl ?_
    exact zw_ireturn (ty := .boolean) dX7_isSplit_82 rfl rfl (Nat.le_refl 0) (Nat.le_refl 0) ⟨_, rfl, rfl, K⟩
  · have K := K.2 c
    refine zw_iload_n 1 dX7_isSplit_8 rfl rfl rfl ?_
    refine zw_getS g_X7_337 dX7_isSplit_9 rfl ?_
    refine zw_iload_n 3 dX7_isSplit_12 rfl rfl rfl ?_
    obtain ⟨j1, hj1, hn1, K⟩ := K
    refine zw_ialdS j1 dX7_isSplit_13 ⟨hj1, hn1⟩ rfl ?_
    refine zw_icmp_ge (tg := 30) dX7_isSplit_14 (by decide) rfl (fun c => ?_) (fun c => ?_)
    · have K := K.1 c
      refine zw_iconst (v := (0 : Int32)) dX7_isSplit_30 (by decide) rfl ?_
      refine zw_istore dX7_isSplit_31 (by decide) rfl rfl ?_
      refine zw_iload_n 2 dX7_isSplit_33 rfl rfl rfl ?_
      refine zw_getG g_X7_340 dX7_isSplit_34 rfl ?_
      refine zw_iload_n 4 dX7_isSplit_37 rfl rfl rfl ?_
      obtain ⟨j2, hj2, hn2, K⟩ := K
      refine zw_ialdG j2 dX7_isSplit_38 ⟨hj2, hn2⟩ rfl ?_
      refine zw_icmp_ge (tg := 55) dX7_isSplit_39 (by decide) rfl (fun c => ?_) (fun c => ?_)
      · have K := K.1 c
        refine zw_iconst (v := (0 : Int32)) dX7_isSplit_55 (by decide) rfl ?_
        refine zw_istore dX7_isSplit_56 (by decide) rfl rfl ?_
        refine zw_iload_n 2 dX7_isSplit_58 rfl rfl rfl ?_
        refine zw_iload_n 5 dX7_isSplit_59 rfl rfl rfl ?_
        refine zw_ishr dX7_isSplit_60 rfl ?_
        refine zw_iconst (v := (1 : Int32)) dX7_isSplit_61 (by decide) rfl ?_
        refine zw_iand dX7_isSplit_62 rfl ?_
        refine zw_if_eq (tg := 75) dX7_isSplit_63 (by decide) rfl (fun c => ?_) (fun c => ?_)
        · have K := K.1 c
          refine zw_iinc (v := (v3 + (1 : Int32))) 5 dX7_isSplit_75 rfl rfl (by decide) rfl rfl ?_
          refine zw_goto (np := 2) dX7_isSplit_78 (by decide) ?_
          exact zw.sub [3, 4, 5, 0] rfl K
        · have K := K.2 c
          refine zw_iload 1 dX7_isSplit_66 rfl rfl ?_
          refine zw_iload 0 dX7_isSplit_68 rfl rfl ?_
          refine zw_icmp_eq (tg := 75) dX7_isSplit_70 (by decide) rfl (fun c => ?_) (fun c => ?_)
          · have K := K.1 c
            refine zw_iinc (v := (v3 + (1 : Int32))) 5 dX7_isSplit_75 rfl rfl (by decide) rfl rfl ?_
            refine zw_goto (np := 2) dX7_isSplit_78 (by decide) ?_
            exact zw.sub [3, 4, 5, 0] rfl K
          · have K := K.2 c
            refine zw_iconst (v := (1 : Int32)) dX7_isSplit_73 (by decide) rfl ?_
            exact zw_ireturn (ty := .boolean) dX7_isSplit_74 rfl rfl (Nat.le_refl 0) (Nat.le_refl 0) ⟨_, rfl, rfl, K⟩
      · have K := K.2 c
        refine zw_getG g_X7_340 dX7_isSplit_42 rfl ?_
        refine zw_iload_n 4 dX7_isSplit_45 rfl rfl rfl ?_
        obtain ⟨j3, hj3, hn3, K⟩ := K
        refine zw_ialdG j3 dX7_isSplit_46 ⟨hj3, hn3⟩ rfl ?_
        refine zw_iload_n 3 dX7_isSplit_47 rfl rfl rfl ?_
        refine zw_icmp_gt (tg := 55) dX7_isSplit_48 (by decide) rfl (fun c => ?_) (fun c => ?_)
        · have K := K.1 c
          refine zw_iconst (v := (0 : Int32)) dX7_isSplit_55 (by decide) rfl ?_
          refine zw_istore dX7_isSplit_56 (by decide) rfl rfl ?_
          refine zw_iload_n 2 dX7_isSplit_58 rfl rfl rfl ?_
          refine zw_iload_n 5 dX7_isSplit_59 rfl rfl rfl ?_
          refine zw_ishr dX7_isSplit_60 rfl ?_
          refine zw_iconst (v := (1 : Int32)) dX7_isSplit_61 (by decide) rfl ?_
          refine zw_iand dX7_isSplit_62 rfl ?_
          refine zw_if_eq (tg := 75) dX7_isSplit_63 (by decide) rfl (fun c => ?_) (fun c => ?_)
          · have K := K.1 c
            refine zw_iinc (v := (v3 + (1 : Int32))) 5 dX7_isSplit_75 rfl rfl (by decide) rfl rfl ?_
            refine zw_goto (np := 2) dX7_isSplit_78 (by decide) ?_
            exact zw.sub [3, 4, 5, 0] rfl K
          · have K := K.2 c
            refine zw_iload 1 dX7_isSplit_66 rfl rfl ?_
            refine zw_iload 0 dX7_isSplit_68 rfl rfl ?_
            refine zw_icmp_eq (tg := 75) dX7_isSplit_70 (by decide) rfl (fun c => ?_) (fun c => ?_)
            · have K := K.1 c
              refine zw_iinc (v := (v3 + (1 : Int32))) 5 dX7_isSplit_75 rfl rfl (by decide) rfl rfl ?_
              refine zw_goto (np := 2) dX7_isSplit_78 (by decide) ?_
              exact zw.sub [3, 4, 5, 0] rfl K
            · have K := K.2 c
              refine zw_iconst (v := (1 : Int32)) dX7_isSplit_73 (by decide) rfl ?_
              exact zw_ireturn (ty := .boolean) dX7_isSplit_74 rfl rfl (Nat.le_refl 0) (Nat.le_refl 0) ⟨_, rfl, rfl, K⟩
        · have K := K.2 c
          refine zw_iconst (v := (1 : Int32)) dX7_isSplit_51 (by decide) rfl ?_
          refine zw_goto (np := 56) dX7_isSplit_52 (by decide) ?_
          refine zw_istore dX7_isSplit_56 (by decide) rfl rfl ?_
          refine zw_iload_n 2 dX7_isSplit_58 rfl rfl rfl ?_
          refine zw_iload_n 5 dX7_isSplit_59 rfl rfl rfl ?_
          refine zw_ishr dX7_isSplit_60 rfl ?_
          refine zw_iconst (v := (1 : Int32)) dX7_isSplit_61 (by decide) rfl ?_
          refine zw_iand dX7_isSplit_62 rfl ?_
          refine zw_if_eq (tg := 75) dX7_isSplit_63 (by decide) rfl (fun c => ?_) (fun c => ?_)
          · have K := K.1 c
            refine zw_iinc (v := (v3 + (1 : Int32))) 5 dX7_isSplit_75 rfl rfl (by decide) rfl rfl ?_
            refine zw_goto (np := 2) dX7_isSplit_78 (by decide) ?_
            exact zw.sub [3, 4, 5, 0] rfl K
          · have K := K.2 c
            refine zw_iload 1 dX7_isSplit_66 rfl rfl ?_
            refine zw_iload 0 dX7_isSplit_68 rfl rfl ?_
            refine zw_icmp_eq (tg := 75) dX7_isSplit_70 (by decide) rfl (fun c => ?_) (fun c => ?_)
            · have K := K.1 c
              refine zw_iinc (v := (v3 + (1 : Int32))) 5 dX7_isSplit_75 rfl rfl (by decide) rfl rfl ?_
              refine zw_goto (np := 2) dX7_isSplit_78 (by decide) ?_
              exact zw.sub [3, 4, 5, 0] rfl K
            · have K := K.2 c
              refine zw_iconst (v := (1 : Int32)) dX7_isSplit_73 (by decide) rfl ?_
              exact zw_ireturn (ty := .boolean) dX7_isSplit_74 rfl rfl (Nat.le_refl 0) (Nat.le_refl 0) ⟨_, rfl, rfl, K⟩
    · have K := K.2 c
      refine zw_getS g_X7_337 dX7_isSplit_17 rfl ?_
      refine zw_iload_n 3 dX7_isSplit_20 rfl rfl rfl ?_
      obtain ⟨j4, hj4, hn4, K⟩ := K
      refine zw_ialdS j4 dX7_isSplit_21 ⟨hj4, hn4⟩ rfl ?_
      refine zw_iload_n 2 dX7_isSplit_22 rfl rfl rfl ?_
      refine zw_icmp_gt (tg := 30) dX7_isSplit_23 (by decide) rfl (fun c => ?_) (fun c => ?_)
      · have K := K.1 c
        refine zw_iconst (v := (0 : Int32)) dX7_isSplit_30 (by decide) rfl ?_
        refine zw_istore dX7_isSplit_31 (by decide) rfl rfl ?_
        refine zw_iload_n 2 dX7_isSplit_33 rfl rfl rfl ?_
        refine zw_getG g_X7_340 dX7_isSplit_34 rfl ?_
        refine zw_iload_n 4 dX7_isSplit_37 rfl rfl rfl ?_
        obtain ⟨j5, hj5, hn5, K⟩ := K
        refine zw_ialdG j5 dX7_isSplit_38 ⟨hj5, hn5⟩ rfl ?_
        refine zw_icmp_ge (tg := 55) dX7_isSplit_39 (by decide) rfl (fun c => ?_) (fun c => ?_)
        · have K := K.1 c
          refine zw_iconst (v := (0 : Int32)) dX7_isSplit_55 (by decide) rfl ?_
          refine zw_istore dX7_isSplit_56 (by decide) rfl rfl ?_
          refine zw_iload_n 2 dX7_isSplit_58 rfl rfl rfl ?_
          refine zw_iload_n 5 dX7_isSplit_59 rfl rfl rfl ?_
          refine zw_ishr dX7_isSplit_60 rfl ?_
          refine zw_iconst (v := (1 : Int32)) dX7_isSplit_61 (by decide) rfl ?_
          refine zw_iand dX7_isSplit_62 rfl ?_
          refine zw_if_eq (tg := 75) dX7_isSplit_63 (by decide) rfl (fun c => ?_) (fun c => ?_)
          · have K := K.1 c
            refine zw_iinc (v := (v3 + (1 : Int32))) 5 dX7_isSplit_75 rfl rfl (by decide) rfl rfl ?_
            refine zw_goto (np := 2) dX7_isSplit_78 (by decide) ?_
            exact zw.sub [3, 4, 5, 0] rfl K
          · have K := K.2 c
            refine zw_iload 1 dX7_isSplit_66 rfl rfl ?_
            refine zw_iload 0 dX7_isSplit_68 rfl rfl ?_
            refine zw_icmp_eq (tg := 75) dX7_isSplit_70 (by decide) rfl (fun c => ?_) (fun c => ?_)
            · have K := K.1 c
              refine zw_iinc (v := (v3 + (1 : Int32))) 5 dX7_isSplit_75 rfl rfl (by decide) rfl rfl ?_
              refine zw_goto (np := 2) dX7_isSplit_78 (by decide) ?_
              exact zw.sub [3, 4, 5, 0] rfl K
            · have K := K.2 c
              refine zw_iconst (v := (1 : Int32)) dX7_isSplit_73 (by decide) rfl ?_
              exact zw_ireturn (ty := .boolean) dX7_isSplit_74 rfl rfl (Nat.le_refl 0) (Nat.le_refl 0) ⟨_, rfl, rfl, K⟩
        · have K := K.2 c
          refine zw_getG g_X7_340 dX7_isSplit_42 rfl ?_
          refine zw_iload_n 4 dX7_isSplit_45 rfl rfl rfl ?_
          obtain ⟨j6, hj6, hn6, K⟩ := K
          refine zw_ialdG j6 dX7_isSplit_46 ⟨hj6, hn6⟩ rfl ?_
          refine zw_iload_n 3 dX7_isSplit_47 rfl rfl rfl ?_
          refine zw_icmp_gt (tg := 55) dX7_isSplit_48 (by decide) rfl (fun c => ?_) (fun c => ?_)
          · have K := K.1 c
            refine zw_iconst (v := (0 : Int32)) dX7_isSplit_55 (by decide) rfl ?_
            refine zw_istore dX7_isSplit_56 (by decide) rfl rfl ?_
            refine zw_iload_n 2 dX7_isSplit_58 rfl rfl rfl ?_
            refine zw_iload_n 5 dX7_isSplit_59 rfl rfl rfl ?_
            refine zw_ishr dX7_isSplit_60 rfl ?_
            refine zw_iconst (v := (1 : Int32)) dX7_isSplit_61 (by decide) rfl ?_
            refine zw_iand dX7_isSplit_62 rfl ?_
            refine zw_if_eq (tg := 75) dX7_isSplit_63 (by decide) rfl (fun c => ?_) (fun c => ?_)
            · have K := K.1 c
              refine zw_iinc (v := (v3 + (1 : Int32))) 5 dX7_isSplit_75 rfl rfl (by decide) rfl rfl ?_
              refine zw_goto (np := 2) dX7_isSplit_78 (by decide) ?_
              exact zw.sub [3, 4, 5, 0] rfl K
            · have K := K.2 c
              refine zw_iload 1 dX7_isSplit_66 rfl rfl ?_
              refine zw_iload 0 dX7_isSplit_68 rfl rfl ?_
              refine zw_icmp_eq (tg := 75) dX7_isSplit_70 (by decide) rfl (fun c => ?_) (fun c => ?_)
              · have K := K.1 c
                refine zw_iinc (v := (v3 + (1 : Int32))) 5 dX7_isSplit_75 rfl rfl (by decide) rfl rfl ?_
                refine zw_goto (np := 2) dX7_isSplit_78 (by decide) ?_
                exact zw.sub [3, 4, 5, 0] rfl K
              · have K := K.2 c
                refine zw_iconst (v := (1 : Int32)) dX7_isSplit_73 (by decide) rfl ?_
                exact zw_ireturn (ty := .boolean) dX7_isSplit_74 rfl rfl (Nat.le_refl 0) (Nat.le_refl 0) ⟨_, rfl, rfl, K⟩
          · have K := K.2 c
            refine zw_iconst (v := (1 : Int32)) dX7_isSplit_51 (by decide) rfl ?_
            refine zw_goto (np := 56) dX7_isSplit_52 (by decide) ?_
            refine zw_istore dX7_isSplit_56 (by decide) rfl rfl ?_
            refine zw_iload_n 2 dX7_isSplit_58 rfl rfl rfl ?_
            refine zw_iload_n 5 dX7_isSplit_59 rfl rfl rfl ?_
            refine zw_ishr dX7_isSplit_60 rfl ?_
            refine zw_iconst (v := (1 : Int32)) dX7_isSplit_61 (by decide) rfl ?_
            refine zw_iand dX7_isSplit_62 rfl ?_
            refine zw_if_eq (tg := 75) dX7_isSplit_63 (by decide) rfl (fun c => ?_) (fun c => ?_)
            · have K := K.1 c
              refine zw_iinc (v := (v3 + (1 : Int32))) 5 dX7_isSplit_75 rfl rfl (by decide) rfl rfl ?_
              refine zw_goto (np := 2) dX7_isSplit_78 (by decide) ?_
              exact zw.sub [3, 4, 5, 0] rfl K
            · have K := K.2 c
              refine zw_iload 1 dX7_isSplit_66 rfl rfl ?_
              refine zw_iload 0 dX7_isSplit_68 rfl rfl ?_
              refine zw_icmp_eq (tg := 75) dX7_isSplit_70 (by decide) rfl (fun c => ?_) (fun c => ?_)
              · have K := K.1 c
                refine zw_iinc (v := (v3 + (1 : Int32))) 5 dX7_isSplit_75 rfl rfl (by decide) rfl rfl ?_
                refine zw_goto (np := 2) dX7_isSplit_78 (by decide) ?_
                exact zw.sub [3, 4, 5, 0] rfl K
              · have K := K.2 c
                refine zw_iconst (v := (1 : Int32)) dX7_isSplit_73 (by decide) rfl ?_
                exact zw_ireturn (ty := .boolean) dX7_isSplit_74 rfl rfl (Nat.le_refl 0) (Nat.le_refl 0) ⟨_, rfl, rfl, K⟩
      · have K := K.2 c
        refine zw_iconst (v := (1 : Int32)) dX7_isSplit_26 (by decide) rfl ?_
        refine zw_goto (np := 31) dX7_isSplit_27 (by decide) ?_
        refine zw_istore dX7_isSplit_31 (by decide) rfl rfl ?_
        refine zw_iload_n 2 dX7_isSplit_33 rfl rfl rfl ?_
        refine zw_getG g_X7_340 dX7_isSplit_34 rfl ?_
        refine zw_iload_n 4 dX7_isSplit_37 rfl rfl rfl ?_
        obtain ⟨j7, hj7, hn7, K⟩ := K
        refine zw_ialdG j7 dX7_isSplit_38 ⟨hj7, hn7⟩ rfl ?_
        refine zw_icmp_ge (tg := 55) dX7_isSplit_39 (by decide) rfl (fun c => ?_) (fun c => ?_)
        · have K := K.1 c
          refine zw_iconst (v := (0 : Int32)) dX7_isSplit_55 (by decide) rfl ?_
          refine zw_istore dX7_isSplit_56 (by decide) rfl rfl ?_
          refine zw_iload_n 2 dX7_isSplit_58 rfl rfl rfl ?_
          refine zw_iload_n 5 dX7_isSplit_59 rfl rfl rfl ?_
          refine zw_ishr dX7_isSplit_60 rfl ?_
          refine zw_iconst (v := (1 : Int32)) dX7_isSplit_61 (by decide) rfl ?_
          refine zw_iand dX7_isSplit_62 rfl ?_
          refine zw_if_eq (tg := 75) dX7_isSplit_63 (by decide) rfl (fun c => ?_) (fun c => ?_)
          · have K := K.1 c
            refine zw_iinc (v := (v3 + (1 : Int32))) 5 dX7_isSplit_75 rfl rfl (by decide) rfl rfl ?_
            refine zw_goto (np := 2) dX7_isSplit_78 (by decide) ?_
            exact zw.sub [3, 4, 5, 0] rfl K
          · have K := K.2 c
            refine zw_iload 1 dX7_isSplit_66 rfl rfl ?_
            refine zw_iload 0 dX7_isSplit_68 rfl rfl ?_
            refine zw_icmp_eq (tg := 75) dX7_isSplit_70 (by decide) rfl (fun c => ?_) (fun c => ?_)
            · have K := K.1 c
              refine zw_iinc (v := (v3 + (1 : Int32))) 5 dX7_isSplit_75 rfl rfl (by decide) rfl rfl ?_
              refine zw_goto (np := 2) dX7_isSplit_78 (by decide) ?_
              exact zw.sub [3, 4, 5, 0] rfl K
            · have K := K.2 c
              refine zw_iconst (v := (1 : Int32)) dX7_isSplit_73 (by decide) rfl ?_
              exact zw_ireturn (ty := .boolean) dX7_isSplit_74 rfl rfl (Nat.le_refl 0) (Nat.le_refl 0) ⟨_, rfl, rfl, K⟩
        · have K := K.2 c
          refine zw_getG g_X7_340 dX7_isSplit_42 rfl ?_
          refine zw_iload_n 4 dX7_isSplit_45 rfl rfl rfl ?_
          obtain ⟨j8, hj8, hn8, K⟩ := K
          refine zw_ialdG j8 dX7_isSplit_46 ⟨hj8, hn8⟩ rfl ?_
          refine zw_iload_n 3 dX7_isSplit_47 rfl rfl rfl ?_
          refine zw_icmp_gt (tg := 55) dX7_isSplit_48 (by decide) rfl (fun c => ?_) (fun c => ?_)
          · have K := K.1 c
            refine zw_iconst (v := (0 : Int32)) dX7_isSplit_55 (by decide) rfl ?_
            refine zw_istore dX7_isSplit_56 (by decide) rfl rfl ?_
            refine zw_iload_n 2 dX7_isSplit_58 rfl rfl rfl ?_
            refine zw_iload_n 5 dX7_isSplit_59 rfl rfl rfl ?_
            refine zw_ishr dX7_isSplit_60 rfl ?_
            refine zw_iconst (v := (1 : Int32)) dX7_isSplit_61 (by decide) rfl ?_
            refine zw_iand dX7_isSplit_62 rfl ?_
            refine zw_if_eq (tg := 75) dX7_isSplit_63 (by decide) rfl (fun c => ?_) (fun c => ?_)
            · have K := K.1 c
              refine zw_iinc (v := (v3 + (1 : Int32))) 5 dX7_isSplit_75 rfl rfl (by decide) rfl rfl ?_
              refine zw_goto (np := 2) dX7_isSplit_78 (by decide) ?_
              exact zw.sub [3, 4, 5, 0] rfl K
            · have K := K.2 c
              refine zw_iload 1 dX7_isSplit_66 rfl rfl ?_
              refine zw_iload 0 dX7_isSplit_68 rfl rfl ?_
              refine zw_icmp_eq (tg := 75) dX7_isSplit_70 (by decide) rfl (fun c => ?_) (fun c => ?_)
              · have K := K.1 c
                refine zw_iinc (v := (v3 + (1 : Int32))) 5 dX7_isSplit_75 rfl rfl (by decide) rfl rfl ?_
                refine zw_goto (np := 2) dX7_isSplit_78 (by decide) ?_
                exact zw.sub [3, 4, 5, 0] rfl K
              · have K := K.2 c
                refine zw_iconst (v := (1 : Int32)) dX7_isSplit_73 (by decide) rfl ?_
                exact zw_ireturn (ty := .boolean) dX7_isSplit_74 rfl rfl (Nat.le_refl 0) (Nat.le_refl 0) ⟨_, rfl, rfl, K⟩
          · have K := K.2 c
            refine zw_iconst (v := (1 : Int32)) dX7_isSplit_51 (by decide) rfl ?_
            refine zw_goto (np := 56) dX7_isSplit_52 (by decide) ?_
            refine zw_istore dX7_isSplit_56 (by decide) rfl rfl ?_
            refine zw_iload_n 2 dX7_isSplit_58 rfl rfl rfl ?_
            refine zw_iload_n 5 dX7_isSplit_59 rfl rfl rfl ?_
            refine zw_ishr dX7_isSplit_60 rfl ?_
            refine zw_iconst (v := (1 : Int32)) dX7_isSplit_61 (by decide) rfl ?_
            refine zw_iand dX7_isSplit_62 rfl ?_
            refine zw_if_eq (tg := 75) dX7_isSplit_63 (by decide) rfl (fun c => ?_) (fun c => ?_)
            · have K := K.1 c
              refine zw_iinc (v := (v3 + (1 : Int32))) 5 dX7_isSplit_75 rfl rfl (by decide) rfl rfl ?_
              refine zw_goto (np := 2) dX7_isSplit_78 (by decide) ?_
              exact zw.sub [3, 4, 5, 0] rfl K
            · have K := K.2 c
              refine zw_iload 1 dX7_isSplit_66 rfl rfl ?_
              refine zw_iload 0 dX7_isSplit_68 rfl rfl ?_
              refine zw_icmp_eq (tg := 75) dX7_isSplit_70 (by decide) rfl (fun c => ?_) (fun c => ?_)
              · have K := K.1 c
                refine zw_iinc (v := (v3 + (1 : Int32))) 5 dX7_isSplit_75 rfl rfl (by decide) rfl rfl ?_
                refine zw_goto (np := 2) dX7_isSplit_78 (by decide) ?_
                exact zw.sub [3, 4, 5, 0] rfl K
              · have K := K.2 c
                refine zw_iconst (v := (1 : Int32)) dX7_isSplit_73 (by decide) rfl ?_
                exact zw_ireturn (ty := .boolean) dX7_isSplit_74 rfl rfl (Nat.le_refl 0) (Nat.le_refl 0) ⟨_, rfl, rfl, K⟩

set_option maxRecDepth 100000 in
set_option maxHeartbeats 4000000 in
theorem rX7_power_0 {q : Int64 → zw_H → Prop} {h : zw_H} {v0 v1 : Int32} (K : zwL 0 mX7_power q 5 [(0, .int v0), (1, .int v1), (2, .long (1 : Int64)), (4, .int (0 : Int32))] [] h) : zwL 0 mX7_power q 0 [(0, .int v0), (1, .int v1)] [] h := by
  refine zw_lconst (v := (1 : Int64)) dX7_power_0 (by decide) rfl ?_
  refine zw_lstore_n dX7_power_1 rfl (by decide) rfl rfl ?_
  refine zw_iconst (v := (0 : Int32)) dX7_power_2 (by decide) rfl ?_
  refine zw_istore dX7_power_3 (by decide) rfl rfl ?_
  exact zw.sub [2, 3, 1, 0] rfl K

set_option maxRecDepth 100000 in
set_option maxHeartbeats 4000000 in
theorem rX7_power_5 {q : Int64 → zw_H → Prop} {h : zw_H} {v0 v1 v4 : Int32} {w2 : Int64} (K : ((v1 ≤ v4 → q w2 h) ∧ (¬ v1 ≤ v4 → zwL 0 mX7_power q 5 [(0, .int v0), (1, .int v1), (2, .long (w2 * (Int32.toInt64 v0))), (4, .int (v4 + (1 : Int32)))] [] h))) : zwL 0 mX7_power q 5 [(0, .int v0), (1, .int v1), (2, .long w2), (4, .int v4)] [] h := by
  refine zw_iload 3 dX7_power_5 rfl rfl ?_
  refine zw_iload_n 1 dX7_power_7 rfl rfl rfl ?_
  refine zw_icmp_ge (tg := 22) dX7_power_8 (by decide) rfl (fun c => ?_) (fun c => ?_)
  · have K := K.1 c
    refine zw_lload_n 2 dX7_power_22 rfl rfl rfl ?_
    exact zw_lreturn dX7_power_23 rfl (Nat.le_refl 0) (Nat.le_refl 0) ⟨_, rfl, rfl, K⟩
  · have K := K.2 c
    refine zw_lload_n 2 dX7_power_11 rfl rfl rfl ?_
    refine zw_iload_n 0 dX7_power_12 rfl rfl rfl ?_
    refine zw_i2l dX7_power_13 rfl ?_
    refine zw_lmul dX7_power_14 rfl ?_
    refine zw_lstore_n dX7_power_15 rfl (by decide) rfl rfl ?_
    refine zw_iinc (v := (v4 + (1 : Int32))) 3 dX7_power_16 rfl rfl (by decide) rfl rfl ?_
    refine zw_goto (np := 5) dX7_power_19 (by decide) ?_
    exact zw.sub [2, 3, 1, 0] rfl K
