theorem zw.shp {M : zw_M} {d mc ms : Nat} {Q : Option Value → zw_S → zw_H → Prop} {pc : Nat} {lv : List (Nat × Value)} {st : List Value} {sh sh' : zw_S} {h : zw_H} {ck cs : Nat} (hs : sh = sh') (k : zw M d mc ms Q pc lv st sh' h ck cs) : zw M d mc ms Q pc lv st sh h ck cs := by subst hs; exact k
theorem zw.cc {M : zw_M} {d mc ms : Nat} {Q : Option Value → zw_S → zw_H → Prop} {pc : Nat} {lv : List (Nat × Value)} {st : List Value} {sh : zw_S} {h : zw_H} {ck cs ck' cs' : Nat} (h1 : ck = ck') (h2 : cs = cs') (k : zw M d mc ms Q pc lv st sh h ck' cs') : zw M d mc ms Q pc lv st sh h ck cs := by subst h1 h2; exact k
/-- nothing is written yet from the cell n on -/
def zZ (h : zw_H) (n : Nat) : Prop := ∀ k, n ≤ k → (∀ b, h.1 k b = 0) ∧ ∀ b, h.2 k b = 0
theorem zZ.up {h : zw_H} {n m : Nat} (Z : zZ h n) (hm : n ≤ m) : zZ h m := fun k hk => Z k (Nat.le_trans hm hk)
theorem zZ.z {h : zw_H} {n k : Nat} (Z : zZ h n) (hk : n ≤ k) : zw_z h k = h := by
  refine Prod.ext ?_ ?_
  · funext a b
    show (if a = k then 0 else h.1 a b) = h.1 a b
    by_cases e : a = k
    · rw [if_pos e, e, (Z k hk).1]
    · rw [if_neg e]
  · funext a b
    show (if a = k then 0 else h.2 a b) = h.2 a b
    by_cases e : a = k
    · rw [if_pos e, e, (Z k hk).2]
    · rw [if_neg e]
theorem zx_at {pre l : zw_S} {j : Nat} {e : zw_E} (hj : l[j]? = some e) : (pre ++ l)[pre.length + j]? = some e := by
  rw [List.getElem?_append_right (Nat.le_add_right _ _), Nat.add_sub_cancel_left]
  exact hj
theorem zx_set {pre l : zw_S} {j : Nat} {e : zw_E} : (pre ++ l).set (pre.length + j) e = pre ++ l.set j e := by
  rw [List.set_append_right _ _ (Nat.le_add_right _ _), Nat.add_sub_cancel_left]
def zx_q (sh : zw_S) (h : zw_H) : Option Value → zw_S → zw_H → Prop := fun r s' h' => r = none ∧ s' = sh ∧ h' = h
section ZX
variable {M M' : zw_M} {d d' mc ms mc' ms' : Nat} {Q : Option Value → zw_S → zw_H → Prop} {pc np : Nat} {lv : List (Nat × Value)} {st : List Value} {sh : zw_S} {h : zw_H} {ck cs ck' cs' : Nat} {pre l l' : zw_S}
theorem zx_newI {n b : Nat} {x : Int32} (Z : zZ h pre.length) (hl : l ++ [.inr (0, n, fun _ => none)] = l') (hb : pre.length + l.length = b) (hd : decode M.2.1 pc = .ok (.newarray .int, 2)) (hx : x = nI n) (hN : n < 100000) (hk : ck + 1 ≤ mc) (hs : cs + n ≤ ms) (hck : ck + 1 = ck') (hcs : cs + n = cs') (hn : pc + 2 = np) (kk : zw M d mc ms Q np lv (.ref b :: st) (pre ++ l') h ck' cs') : zw M d mc ms Q pc lv (.int x :: st) (pre ++ l) h ck cs := by
  subst hl hb hck hcs
  refine zw_newI w_arrI hd hx hN hk hs hn ?_
  rw [List.length_append, Z.z (Nat.le_add_right _ _), List.append_assoc]
  exact kk
theorem zx_newZ {n b : Nat} {x : Int32} (Z : zZ h pre.length) (hl : l ++ [.inr (1, n, fun _ => none)] = l') (hb : pre.length + l.length = b) (hd : decode M.2.1 pc = .ok (.newarray .boolean, 2)) (hx : x = nI n) (hN : n < 100000) (hk : ck + 1 ≤ mc) (hs : cs + n ≤ ms) (hck : ck + 1 = ck') (hcs : cs + n = cs') (hn : pc + 2 = np) (kk : zw M d mc ms Q np lv (.ref b :: st) (pre ++ l') h ck' cs') : zw M d mc ms Q pc lv (.int x :: st) (pre ++ l) h ck cs := by
  subst hl hb hck hcs
  refine zw_newZ w_arrZ hd hx hN hk hs hn ?_
  rw [List.length_append, Z.z (Nat.le_add_right _ _), List.append_assoc]
  exact kk
theorem zx_newL {n b : Nat} {x : Int32} (Z : zZ h pre.length) (hl : l ++ [.inr (2, n, fun _ => none)] = l') (hb : pre.length + l.length = b) (hd : decode M.2.1 pc = .ok (.newarray .long, 2)) (hx : x = nI n) (hN : n < 100000) (hk : ck + 1 ≤ mc) (hs : cs + n ≤ ms) (hck : ck + 1 = ck') (hcs : cs + n = cs') (hn : pc + 2 = np) (kk : zw M d mc ms Q np lv (.ref b :: st) (pre ++ l') h ck' cs') : zw M d mc ms Q pc lv (.int x :: st) (pre ++ l) h ck cs := by
  subst hl hb hck hcs
  refine zw_newL w_arrL hd hx hN hk hs hn ?_
  rw [List.length_append, Z.z (Nat.le_add_right _ _), List.append_assoc]
  exact kk
theorem zx_putR {i ci k j q r N : Nat} {C : String} {T : u_T} {ty : Nat → FieldType} {fs : List (Option (Option Nat))} (hf : zw_fld M.1.cls i ci k C T N) (hT : zw_cls C T N ty) (hfin : (T k).2.2.2 = true) (hin2 : M.1.name = "<init>") (hdecl : C = M.1.cls) (hx : ∀ a : Nat, narrow (ty k) (.ref a) = .ref a ∧ fits (ty k) (.ref a) = true) (hd : decode M.2.1 pc = .ok (.putfield i, 3)) (hq : l[j]? = some (.inl (ci, fs))) (hb : pre.length + j = q) (hs : k < fs.length) (hl : l.set j (.inl (ci, fs.set k (some (some r)))) = l') (hn : pc + 3 = np) (kk : zw M d mc ms Q np lv st (pre ++ l') h ck cs) : zw M d mc ms Q pc lv (.ref r :: .ref q :: st) (pre ++ l) h ck cs := by
  subst hl hb
  refine zw_putR hf hT hfin hin2 hdecl hx hd (zx_at hq) hs hn ?_
  rw [zx_set]
  exact kk
theorem zx_new {i ci N : Nat} {C : String} {T : u_T} {ty : Nat → FieldType} {fs : List (Option (Option Nat))} (Z : zZ h sh.length) (hc : vwCl[ci]? = some (C, T, N)) (hin : ∀ w ∈ u_ws C T N, w ∈ zw_ts) (hT : zw_cls C T N ty) (hwl : Cond.classLink M.1.cls i C ∈ zw_ts) (hu : Cond.instantiable C N ∈ zw_ts ∧ Cond.initialized C ∈ zw_ts) (hfs : ∀ g : zw_G, ∀ j, j < N → defaultValue (ty j) = vp_V (fs.mapIdx (fun _ y => zw_sl g y 0)) j) (hd : decode M.2.1 pc = .ok (.new i, 3)) (hk : ck + 1 ≤ mc) (hs : cs + N ≤ ms) (hck : ck + 1 = ck') (hcs : cs + N = cs') (hn : pc + 3 = np) (kk : zw M d mc ms Q np lv (.ref sh.length :: st) (sh ++ [.inl (ci, fs)]) h ck' cs') : zw M d mc ms Q pc lv st sh h ck cs := by
  subst hck hcs
  refine zw_new hc hin hT hwl hu.1 hu.2 hfs hd hk hs hn ?_
  rw [Z.z (Nat.le_refl _)]
  exact kk
theorem zx_ctorN {i x : Nat} {sf : zw_S} {host : String} {e : zw_E} (ct : zc d' mc' ms' M' [.ref x] (sh ++ [e]) h (zx_q (sh ++ sf) h)) (hmy : zw_my M' 0) (hret : M'.2.2.2.1 = none) (hname : M'.1.name = "<init>") (hwl : Cond.methodLinkNest M.1.cls i M'.1 host ∈ zw_nest) (hwi : Cond.instanceMethod M'.1 ∈ zw_ts)
    (hd : decode M.2.1 pc = .ok (.invokespecial i, 3)) (hdep : d' + 1 ≤ d) (hrest : (st.map fun v => v.category).sum ≤ 8) (hk : ck + mc' ≤ mc) (hs : cs + ms' ≤ ms) (hck : ck + mc' = ck') (hcs : cs + ms' = cs') (hn : pc + 3 = np) (kk : zw M d mc ms Q np lv st (sh ++ sf) h ck' cs') : zw M d mc ms Q pc lv (.ref x :: st) (sh ++ [e]) h ck cs := by
  subst hck hcs
  refine zw_callIN (n := 0) (As := []) (rest := st) ct hmy hret hname rfl rfl hwl hwi hd hdep hrest hk hs hn (fun r s1 h1 hq => ?_)
  obtain ⟨hr, h2, h3⟩ := hq
  rw [hr, h2, h3]
  exact kk
theorem zx_ctor {i x : Nat} {sf : zw_S} {e : zw_E} (ct : zc d' mc' ms' M' [.ref x] (sh ++ [e]) h (zx_q (sh ++ sf) h)) (hmy : zw_my M' 0) (hret : M'.2.2.2.1 = none) (hname : M'.1.name = "<init>") (hwl : Cond.methodLink M.1.cls i M'.1 ∈ zw_ts) (hwi : Cond.instanceMethod M'.1 ∈ zw_ts)
    (hd : decode M.2.1 pc = .ok (.invokespecial i, 3)) (hdep : d' + 1 ≤ d) (hrest : (st.map fun v => v.category).sum ≤ 8) (hk : ck + mc' ≤ mc) (hs : cs + ms' ≤ ms) (hck : ck + mc' = ck') (hcs : cs + ms' = cs') (hn : pc + 3 = np) (kk : zw M d mc ms Q np lv st (sh ++ sf) h ck' cs') : zw M d mc ms Q pc lv (.ref x :: st) (sh ++ [e]) h ck cs := by
  subst hck hcs
  refine zw_callI (n := 0) (As := []) (rest := st) ct hmy hret hname rfl rfl hwl hwi hd hdep hrest hk hs hn (fun r s1 h1 hq => ?_)
  obtain ⟨hr, h2, h3⟩ := hq
  rw [hr, h2, h3]
  exact kk
end ZX
theorem z0_X0 : ∀ g : zw_G, ∀ j, j < 9 → defaultValue (tyX0 j) = vp_V (([some none, some none, some none, some none, some none, some none, some none, none, none] : List (Option (Option Nat))).mapIdx (fun _ y => zw_sl g y 0)) j := by
  intro g j hj
  rcases (show j = 0 ∨ j = 1 ∨ j = 2 ∨ j = 3 ∨ j = 4 ∨ j = 5 ∨ j = 6 ∨ j = 7 ∨ j = 8 by omega) with rfl | rfl | rfl | rfl | rfl | rfl | rfl | rfl | rfl <;> rfl
theorem z0_X1 : ∀ g : zw_G, ∀ j, j < 3 → defaultValue (tyX1 j) = vp_V (([some none, none, none] : List (Option (Option Nat))).mapIdx (fun _ y => zw_sl g y 0)) j := by
  intro g j hj
  rcases (show j = 0 ∨ j = 1 ∨ j = 2 by omega) with rfl | rfl | rfl <;> rfl
theorem z0_X2 : ∀ g : zw_G, ∀ j, j < 7 → defaultValue (tyX2 j) = vp_V (([some none, some none, some none, some none, some none, none, none] : List (Option (Option Nat))).mapIdx (fun _ y => zw_sl g y 0)) j := by
  intro g j hj
  rcases (show j = 0 ∨ j = 1 ∨ j = 2 ∨ j = 3 ∨ j = 4 ∨ j = 5 ∨ j = 6 by omega) with rfl | rfl | rfl | rfl | rfl | rfl | rfl <;> rfl
theorem z0_X3 : ∀ g : zw_G, ∀ j, j < 4 → defaultValue (tyX3 j) = vp_V (([some none, some none, none, none] : List (Option (Option Nat))).mapIdx (fun _ y => zw_sl g y 0)) j := by
  intro g j hj
  rcases (show j = 0 ∨ j = 1 ∨ j = 2 ∨ j = 3 by omega) with rfl | rfl | rfl | rfl <;> rfl
theorem z0_X4 : ∀ g : zw_G, ∀ j, j < 5 → defaultValue (tyX4 j) = vp_V (([some none, some none, some none, some none, none] : List (Option (Option Nat))).mapIdx (fun _ y => zw_sl g y 0)) j := by
  intro g j hj
  rcases (show j = 0 ∨ j = 1 ∨ j = 2 ∨ j = 3 ∨ j = 4 by omega) with rfl | rfl | rfl | rfl | rfl <;> rfl
theorem z0_X5 : ∀ g : zw_G, ∀ j, j < 7 → defaultValue (tyX5 j) = vp_V (([some none, none, none, none, none, none, none] : List (Option (Option Nat))).mapIdx (fun _ y => zw_sl g y 0)) j := by
  intro g j hj
  rcases (show j = 0 ∨ j = 1 ∨ j = 2 ∨ j = 3 ∨ j = 4 ∨ j = 5 ∨ j = 6 by omega) with rfl | rfl | rfl | rfl | rfl | rfl | rfl <;> rfl
theorem z0_X6 : ∀ g : zw_G, ∀ j, j < 2 → defaultValue (tyX6 j) = vp_V (([some none, none] : List (Option (Option Nat))).mapIdx (fun _ y => zw_sl g y 0)) j := by
  intro g j hj
  rcases (show j = 0 ∨ j = 1 by omega) with rfl | rfl <;> rfl
theorem z0_X7 : ∀ g : zw_G, ∀ j, j < 10 → defaultValue (tyX7 j) = vp_V (([some none, some none, some none, some none, some none, some none, some none, some none, some none, some none] : List (Option (Option Nat))).mapIdx (fun _ y => zw_sl g y 0)) j := by
  intro g j hj
  rcases (show j = 0 ∨ j = 1 ∨ j = 2 ∨ j = 3 ∨ j = 4 ∨ j = 5 ∨ j = 6 ∨ j = 7 ∨ j = 8 ∨ j = 9 by omega) with rfl | rfl | rfl | rfl | rfl | rfl | rfl | rfl | rfl | rfl <;> rfl
theorem z0_X8 : ∀ g : zw_G, ∀ j, j < 14 → defaultValue (tyX8 j) = vp_V (([some none, none, some none, none, some none, some none, some none, none, none, some none, none, some none, some none, some none] : List (Option (Option Nat))).mapIdx (fun _ y => zw_sl g y 0)) j := by
  intro g j hj
  rcases (show j = 0 ∨ j = 1 ∨ j = 2 ∨ j = 3 ∨ j = 4 ∨ j = 5 ∨ j = 6 ∨ j = 7 ∨ j = 8 ∨ j = 9 ∨ j = 10 ∨ j = 11 ∨ j = 12 ∨ j = 13 by omega) with rfl | rfl | rfl | rfl | rfl | rfl | rfl | rfl | rfl | rfl | rfl | rfl | rfl | rfl <;> rfl
abbrev fX5 (b : Nat) : zw_S := [.inl (5, [some (some (b + 1)), none, none, none, none, none, none]), .inr (0, 8, fun _ => none)]
set_option maxRecDepth 100000 in
set_option maxHeartbeats 4000000 in
theorem c_X5_init {pre : zw_S} {h : zw_H} (Z : zZ h pre.length) : zc 1 1 8 mX5_init [.ref pre.length] (pre ++ [.inl (5, [some none, none, none, none, none, none, none])]) h (zx_q (pre ++ fX5 pre.length) h) := by
  refine zc_of rfl pn_X5 (fun _ => Nat.le_of_ble_eq_true rfl) ?_
  refine zw.to (lv' := [(0, .ref pre.length)]) (st' := []) (h' := h) ?_ rfl rfl rfl
  refine zw_aload_n 0 dX5_init_0 rfl rfl rfl ?_
  refine zw_objInit k_X5_3 w_obj1 w_obj2 dX5_init_1 (by decide) (Nat.le_of_ble_eq_true rfl) rfl ?_
  refine zw_aload_n 0 dX5_init_4 rfl rfl rfl ?_
  refine zw_bipush (v := (8 : Int32)) dX5_init_5 (by decide) rfl ?_
  refine zx_newI (n := 8) (b := pre.length + 1) (l' := [.inl (5, [some none, none, none, none, none, none, none]), .inr (0, 8, fun _ => none)]) (ck' := 1) (cs' := 8) Z rfl rfl dX5_init_7 rfl (by decide) (Nat.le_of_ble_eq_true rfl) (Nat.le_of_ble_eq_true rfl) rfl rfl rfl ?_
  refine zx_putR (j := 0) (l' := [.inl (5, [some (some (pre.length + 1)), none, none, none, none, none, none]), .inr (0, 8, fun _ => none)]) f_X5_9 cl_X5 rfl rfl rfl (fun a => ⟨rfl, rfl⟩) dX5_init_9 rfl rfl (Nat.le_of_ble_eq_true rfl) rfl rfl ?_
  exact zw_return dX5_init_12 rfl (Nat.le_refl _) (Nat.le_refl _) ⟨rfl, rfl, rfl⟩
abbrev fX3 (b : Nat) : zw_S := [.inl (3, [some (some (b + 1)), some (some (b + 2)), none, none]), .inr (0, 6, fun _ => none), .inr (0, 6, fun _ => none)]
set_option maxRecDepth 100000 in
set_option maxHeartbeats 4000000 in
theorem c_X3_init {pre : zw_S} {h : zw_H} (Z : zZ h pre.length) : zc 1 2 12 mX3_init [.ref pre.length] (pre ++ [.inl (3, [some none, some none, none, none])]) h (zx_q (pre ++ fX3 pre.length) h) := by
  refine zc_of rfl pn_X3 (fun _ => Nat.le_of_ble_eq_true rfl) ?_
  refine zw.to (lv' := [(0, .ref pre.length)]) (st' := []) (h' := h) ?_ rfl rfl rfl
  refine zw_aload_n 0 dX3_init_0 rfl rfl rfl ?_
  refine zw_objInit k_X3_3 w_obj1 w_obj2 dX3_init_1 (by decide) (Nat.le_of_ble_eq_true rfl) rfl ?_
  refine zw_aload_n 0 dX3_init_4 rfl rfl rfl ?_
  refine zw_bipush (v := (6 : Int32)) dX3_init_5 (by decide) rfl ?_
  refine zx_newI (n := 6) (b := pre.length + 1) (l' := [.inl (3, [some none, some none, none, none]), .inr (0, 6, fun _ => none)]) (ck' := 1) (cs' := 6) Z rfl rfl dX3_init_7 rfl (by decide) (Nat.le_of_ble_eq_true rfl) (Nat.le_of_ble_eq_true rfl) rfl rfl rfl ?_
  refine zx_putR (j := 0) (l' := [.inl (3, [some (some (pre.length + 1)), some none, none, none]), .inr (0, 6, fun _ => none)]) f_X3_9 cl_X3 rfl rfl rfl (fun a => ⟨rfl, rfl⟩) dX3_init_9 rfl rfl (Nat.le_of_ble_eq_true rfl) rfl rfl ?_
  refine zw_aload_n 0 dX3_init_12 rfl rfl rfl ?_
  refine zw_bipush (v := (6 : Int32)) dX3_init_13 (by decide) rfl ?_
  refine zx_newI (n := 6) (b := pre.length + 2) (l' := [.inl (3, [some (some (pre.length + 1)), some none, none, none]), .inr (0, 6, fun _ => none), .inr (0, 6, fun _ => none)]) (ck' := 2) (cs' := 12) Z rfl rfl dX3_init_15 rfl (by decide) (Nat.le_of_ble_eq_true rfl) (Nat.le_of_ble_eq_true rfl) rfl rfl rfl ?_
  refine zx_putR (j := 0) (l' := [.inl (3, [some (some (pre.length + 1)), some (some (pre.length + 2)), none, none]), .inr (0, 6, fun _ => none), .inr (0, 6, fun _ => none)]) f_X3_15 cl_X3 rfl rfl rfl (fun a => ⟨rfl, rfl⟩) dX3_init_17 rfl rfl (Nat.le_of_ble_eq_true rfl) rfl rfl ?_
  exact zw_return dX3_init_20 rfl (Nat.le_refl _) (Nat.le_refl _) ⟨rfl, rfl, rfl⟩
abbrev fX6 (b : Nat) : zw_S := [.inl (6, [some (some (b + 1)), none]), .inr (0, 20, fun _ => none)]
set_option maxRecDepth 100000 in
set_option maxHeartbeats 4000000 in
theorem c_X6_init {pre : zw_S} {h : zw_H} (Z : zZ h pre.length) : zc 1 1 20 mX6_init [.ref pre.length] (pre ++ [.inl (6, [some none, none])]) h (zx_q (pre ++ fX6 pre.length) h) := by
  refine zc_of rfl pn_X6 (fun _ => Nat.le_of_ble_eq_true rfl) ?_
  refine zw.to (lv' := [(0, .ref pre.length)]) (st' := []) (h' := h) ?_ rfl rfl rfl
  refine zw_aload_n 0 dX6_init_0 rfl rfl rfl ?_
  refine zw_objInit k_X6_3 w_obj1 w_obj2 dX6_init_1 (by decide) (Nat.le_of_ble_eq_true rfl) rfl ?_
  refine zw_aload_n 0 dX6_init_4 rfl rfl rfl ?_
  refine zw_bipush (v := (20 : Int32)) dX6_init_5 (by decide) rfl ?_
  refine zx_newI (n := 20) (b := pre.length + 1) (l' := [.inl (6, [some none, none]), .inr (0, 20, fun _ => none)]) (ck' := 1) (cs' := 20) Z rfl rfl dX6_init_7 rfl (by decide) (Nat.le_of_ble_eq_true rfl) (Nat.le_of_ble_eq_true rfl) rfl rfl rfl ?_
  refine zx_putR (j := 0) (l' := [.inl (6, [some (some (pre.length + 1)), none]), .inr (0, 20, fun _ => none)]) f_X6_9 cl_X6 rfl rfl rfl (fun a => ⟨rfl, rfl⟩) dX6_init_9 rfl rfl (Nat.le_of_ble_eq_true rfl) rfl rfl ?_
  exact zw_return dX6_init_12 rfl (Nat.le_refl _) (Nat.le_refl _) ⟨rfl, rfl, rfl⟩
abbrev fX2 (b : Nat) : zw_S := [.inl (2, [some (some (b + 1)), some (some (b + 2)), some (some (b + 3)), some (some (b + 4)), some (some (b + 5)), none, none]), .inr (0, 203, fun _ => none), .inr (0, 203, fun _ => none), .inr (0, 203, fun _ => none), .inr (0, 7, fun _ => none), .inr (0, 203, fun _ => none)]
set_option maxRecDepth 100000 in
set_option maxHeartbeats 4000000 in
theorem c_X2_init {pre : zw_S} {h : zw_H} (Z : zZ h pre.length) : zc 1 5 819 mX2_init [.ref pre.length] (pre ++ [.inl (2, [some none, some none, some none, some none, some none, none, none])]) h (zx_q (pre ++ fX2 pre.length) h) := by
  refine zc_of rfl pn_X2 (fun _ => Nat.le_of_ble_eq_true rfl) ?_
  refine zw.to (lv' := [(0, .ref pre.length)]) (st' := []) (h' := h) ?_ rfl rfl rfl
  refine zw_aload_n 0 dX2_init_0 rfl rfl rfl ?_
  refine zw_objInit k_X2_3 w_obj1 w_obj2 dX2_init_1 (by decide) (Nat.le_of_ble_eq_true rfl) rfl ?_
  refine zw_aload_n 0 dX2_init_4 rfl rfl rfl ?_
  refine zw_sipush (v := (203 : Int32)) dX2_init_5 (by decide) rfl ?_
  refine zx_newI (n := 203) (b := pre.length + 1) (l' := [.inl (2, [some none, some none, some none, some none, some none, none, none]), .inr (0, 203, fun _ => none)]) (ck' := 1) (cs' := 203) Z rfl rfl dX2_init_8 rfl (by decide) (Nat.le_of_ble_eq_true rfl) (Nat.le_of_ble_eq_true rfl) rfl rfl rfl ?_
  refine zx_putR (j := 0) (l' := [.inl (2, [some (some (pre.length + 1)), some none, some none, some none, some none, none, none]), .inr (0, 203, fun _ => none)]) f_X2_9 cl_X2 rfl rfl rfl (fun a => ⟨rfl, rfl⟩) dX2_init_10 rfl rfl (Nat.le_of_ble_eq_true rfl) rfl rfl ?_
  refine zw_aload_n 0 dX2_init_13 rfl rfl rfl ?_
  refine zw_sipush (v := (203 : Int32)) dX2_init_14 (by decide) rfl ?_
  refine zx_newI (n := 203) (b := pre.length + 2) (l' := [.inl (2, [some (some (pre.length + 1)), some none, some none, some none, some none, none, none]), .inr (0, 203, fun _ => none), .inr (0, 203, fun _ => none)]) (ck' := 2) (cs' := 406) Z rfl rfl dX2_init_17 rfl (by decide) (Nat.le_of_ble_eq_true rfl) (Nat.le_of_ble_eq_true rfl) rfl rfl rfl ?_
  refine zx_putR (j := 0) (l' := [.inl (2, [some (some (pre.length + 1)), some (some (pre.length + 2)), some none, some none, some none, none, none]), .inr (0, 203, fun _ => none), .inr (0, 203, fun _ => none)]) f_X2_15 cl_X2 rfl rfl rfl (fun a => ⟨rfl, rfl⟩) dX2_init_19 rfl rfl (Nat.le_of_ble_eq_true rfl) rfl rfl ?_
  refine zw_aload_n 0 dX2_init_22 rfl rfl rfl ?_
  refine zw_sipush (v := (203 : Int32)) dX2_init_23 (by decide) rfl ?_
  refine zx_newI (n := 203) (b := pre.length + 3) (l' := [.inl (2, [some (some (pre.length + 1)), some (some (pre.length + 2)), some none, some none, some none, none, none]), .inr (0, 203, fun _ => none), .inr (0, 203, fun _ => none), .inr (0, 203, fun _ => none)]) (ck' := 3) (cs' := 609) Z rfl rfl dX2_init_26 rfl (by decide) (Nat.le_of_ble_eq_true rfl) (Nat.le_of_ble_eq_true rfl) rfl rfl rfl ?_
  refine zx_putR (j := 0) (l' := [.inl (2, [some (some (pre.length + 1)), some (some (pre.length + 2)), some (some (pre.length + 3)), some none, some none, none, none]), .inr (0, 203, fun _ => none), .inr (0, 203, fun _ => none), .inr (0, 203, fun _ => none)]) f_X2_18 cl_X2 rfl rfl rfl (fun a => ⟨rfl, rfl⟩) dX2_init_28 rfl rfl (Nat.le_of_ble_eq_true rfl) rfl rfl ?_
  refine zw_aload_n 0 dX2_init_31 rfl rfl rfl ?_
  refine zw_bipush (v := (7 : Int32)) dX2_init_32 (by decide) rfl ?_
  refine zx_newI (n := 7) (b := pre.length + 4) (l' := [.inl (2, [some (some (pre.length + 1)), some (some (pre.length + 2)), some (some (pre.length + 3)), some none, some none, none, none]), .inr (0, 203, fun _ => none), .inr (0, 203, fun _ => none), .inr (0, 203, fun _ => none), .inr (0, 7, fun _ => none)]) (ck' := 4) (cs' := 616) Z rfl rfl dX2_init_34 rfl (by decide) (Nat.le_of_ble_eq_true rfl) (Nat.le_of_ble_eq_true rfl) rfl rfl rfl ?_
  refine zx_putR (j := 0) (l' := [.inl (2, [some (some (pre.length + 1)), some (some (pre.length + 2)), some (some (pre.length + 3)), some (some (pre.length + 4)), some none, none, none]), .inr (0, 203, fun _ => none), .inr (0, 203, fun _ => none), .inr (0, 203, fun _ => none), .inr (0, 7, fun _ => none)]) f_X2_21 cl_X2 rfl rfl rfl (fun a => ⟨rfl, rfl⟩) dX2_init_36 rfl rfl (Nat.le_of_ble_eq_true rfl) rfl rfl ?_
  refine zw_aload_n 0 dX2_init_39 rfl rfl rfl ?_
  refine zw_sipush (v := (203 : Int32)) dX2_init_40 (by decide) rfl ?_
  refine zx_newI (n := 203) (b := pre.length + 5) (l' := [.inl (2, [some (some (pre.length + 1)), some (some (pre.length + 2)), some (some (pre.length + 3)), some (some (pre.length + 4)), some none, none, none]), .inr (0, 203, fun _ => none), .inr (0, 203, fun _ => none), .inr (0, 203, fun _ => none), .inr (0, 7, fun _ => none), .inr (0, 203, fun _ => none)]) (ck' := 5) (cs' := 819) Z rfl rfl dX2_init_43 rfl (by decide) (Nat.le_of_ble_eq_true rfl) (Nat.le_of_ble_eq_true rfl) rfl rfl rfl ?_
  refine zx_putR (j := 0) (l' := [.inl (2, [some (some (pre.length + 1)), some (some (pre.length + 2)), some (some (pre.length + 3)), some (some (pre.length + 4)), some (some (pre.length + 5)), none, none]), .inr (0, 203, fun _ => none), .inr (0, 203, fun _ => none), .inr (0, 203, fun _ => none), .inr (0, 7, fun _ => none), .inr (0, 203, fun _ => none)]) f_X2_24 cl_X2 rfl rfl rfl (fun a => ⟨rfl, rfl⟩) dX2_init_45 rfl rfl (Nat.le_of_ble_eq_true rfl) rfl rfl ?_
  exact zw_return dX2_init_48 rfl (Nat.le_refl _) (Nat.le_refl _) ⟨rfl, rfl, rfl⟩
abbrev fX4 (b : Nat) : zw_S := [.inl (4, [some (some (b + 1)), some (some (b + 2)), some (some (b + 3)), some (some (b + 4)), none]), .inr (0, 203, fun _ => none), .inr (0, 203, fun _ => none), .inr (2, 203, fun _ => none), .inr (0, 203, fun _ => none)]
set_option maxRecDepth 100000 in
set_option maxHeartbeats 4000000 in
theorem c_X4_init {pre : zw_S} {h : zw_H} (Z : zZ h pre.length) : zc 1 4 812 mX4_init [.ref pre.length] (pre ++ [.inl (4, [some none, some none, some none, some none, none])]) h (zx_q (pre ++ fX4 pre.length) h) := by
  refine zc_of rfl pn_X4 (fun _ => Nat.le_of_ble_eq_true rfl) ?_
  refine zw.to (lv' := [(0, .ref pre.length)]) (st' := []) (h' := h) ?_ rfl rfl rfl
  refine zw_aload_n 0 dX4_init_0 rfl rfl rfl ?_
  refine zw_objInit k_X4_3 w_obj1 w_obj2 dX4_init_1 (by decide) (Nat.le_of_ble_eq_true rfl) rfl ?_
  refine zw_aload_n 0 dX4_init_4 rfl rfl rfl ?_
  refine zw_sipush (v := (203 : Int32)) dX4_init_5 (by decide) rfl ?_
  refine zx_newI (n := 203) (b := pre.length + 1) (l' := [.inl (4, [some none, some none, some none, some none, none]), .inr (0, 203, fun _ => none)]) (ck' := 1) (cs' := 203) Z rfl rfl dX4_init_8 rfl (by decide) (Nat.le_of_ble_eq_true rfl) (Nat.le_of_ble_eq_true rfl) rfl rfl rfl ?_
  refine zx_putR (j := 0) (l' := [.inl (4, [some (some (pre.length + 1)), some none, some none, some none, none]), .inr (0, 203, fun _ => none)]) f_X4_9 cl_X4 rfl rfl rfl (fun a => ⟨rfl, rfl⟩) dX4_init_10 rfl rfl (Nat.le_of_ble_eq_true rfl) rfl rfl ?_
  refine zw_aload_n 0 dX4_init_13 rfl rfl rfl ?_
  refine zw_sipush (v := (203 : Int32)) dX4_init_14 (by decide) rfl ?_
  refine zx_newI (n := 203) (b := pre.length + 2) (l' := [.inl (4, [some (some (pre.length + 1)), some none, some none, some none, none]), .inr (0, 203, fun _ => none), .inr (0, 203, fun _ => none)]) (ck' := 2) (cs' := 406) Z rfl rfl dX4_init_17 rfl (by decide) (Nat.le_of_ble_eq_true rfl) (Nat.le_of_ble_eq_true rfl) rfl rfl rfl ?_
  refine zx_putR (j := 0) (l' := [.inl (4, [some (some (pre.length + 1)), some (some (pre.length + 2)), some none, some none, none]), .inr (0, 203, fun _ => none), .inr (0, 203, fun _ => none)]) f_X4_15 cl_X4 rfl rfl rfl (fun a => ⟨rfl, rfl⟩) dX4_init_19 rfl rfl (Nat.le_of_ble_eq_true rfl) rfl rfl ?_
  refine zw_aload_n 0 dX4_init_22 rfl rfl rfl ?_
  refine zw_sipush (v := (203 : Int32)) dX4_init_23 (by decide) rfl ?_
  refine zx_newL (n := 203) (b := pre.length + 3) (l' := [.inl (4, [some (some (pre.length + 1)), some (some (pre.length + 2)), some none, some none, none]), .inr (0, 203, fun _ => none), .inr (0, 203, fun _ => none), .inr (2, 203, fun _ => none)]) (ck' := 3) (cs' := 609) Z rfl rfl dX4_init_26 rfl (by decide) (Nat.le_of_ble_eq_true rfl) (Nat.le_of_ble_eq_true rfl) rfl rfl rfl ?_
  refine zx_putR (j := 0) (l' := [.inl (4, [some (some (pre.length + 1)), some (some (pre.length + 2)), some (some (pre.length + 3)), some none, none]), .inr (0, 203, fun _ => none), .inr (0, 203, fun _ => none), .inr (2, 203, fun _ => none)]) f_X4_18 cl_X4 rfl rfl rfl (fun a => ⟨rfl, rfl⟩) dX4_init_28 rfl rfl (Nat.le_of_ble_eq_true rfl) rfl rfl ?_
  refine zw_aload_n 0 dX4_init_31 rfl rfl rfl ?_
  refine zw_sipush (v := (203 : Int32)) dX4_init_32 (by decide) rfl ?_
  refine zx_newI (n := 203) (b := pre.length + 4) (l' := [.inl (4, [some (some (pre.length + 1)), some (some (pre.length + 2)), some (some (pre.length + 3)), some none, none]), .inr (0, 203, fun _ => none), .inr (0, 203, fun _ => none), .inr (2, 203, fun _ => none), .inr (0, 203, fun _ => none)]) (ck' := 4) (cs' := 812) Z rfl rfl dX4_init_35 rfl (by decide) (Nat.le_of_ble_eq_true rfl) (Nat.le_of_ble_eq_true rfl) rfl rfl rfl ?_
  refine zx_putR (j := 0) (l' := [.inl (4, [some (some (pre.length + 1)), some (some (pre.length + 2)), some (some (pre.length + 3)), some (some (pre.length + 4)), none]), .inr (0, 203, fun _ => none), .inr (0, 203, fun _ => none), .inr (2, 203, fun _ => none), .inr (0, 203, fun _ => none)]) f_X4_22 cl_X4 rfl rfl rfl (fun a => ⟨rfl, rfl⟩) dX4_init_37 rfl rfl (Nat.le_of_ble_eq_true rfl) rfl rfl ?_
  exact zw_return dX4_init_40 rfl (Nat.le_refl _) (Nat.le_refl _) ⟨rfl, rfl, rfl⟩
abbrev fX0 (b : Nat) : zw_S := [.inl (0, [some (some (b + 1)), some (some (b + 2)), some (some (b + 3)), some (some (b + 4)), some (some (b + 5)), some (some (b + 6)), some (some (b + 7)), none, none]), .inr (0, 203, fun _ => none), .inr (0, 203, fun _ => none), .inr (0, 203, fun _ => none), .inr (0, 203, fun _ => none), .inr (1, 203, fun _ => none), .inr (0, 6, fun _ => none), .inl (3, [some (some (b + 8)), some (some (b + 9)), none, none]), .inr (0, 6, fun _ => none), .inr (0, 6, fun _ => none)]
set_option maxRecDepth 100000 in
set_option maxHeartbeats 4000000 in
theorem c_X0_init {pre : zw_S} {h : zw_H} (Z : zZ h pre.length) : zc 2 9 1037 mX0_init [.ref pre.length] (pre ++ [.inl (0, [some none, some none, some none, some none, some none, some none, some none, none, none])]) h (zx_q (pre ++ fX0 pre.length) h) := by
  refine zc_of rfl pn_X0 (fun _ => Nat.le_of_ble_eq_true rfl) ?_
  refine zw.to (lv' := [(0, .ref pre.length)]) (st' := []) (h' := h) ?_ rfl rfl rfl
  refine zw_aload_n 0 dX0_init_0 rfl rfl rfl ?_
  refine zw_objInit k_X0_3 w_obj1 w_obj2 dX0_init_1 (by decide) (Nat.le_of_ble_eq_true rfl) rfl ?_
  refine zw_aload_n 0 dX0_init_4 rfl rfl rfl ?_
  refine zw_sipush (v := (203 : Int32)) dX0_init_5 (by decide) rfl ?_
  refine zx_newI (n := 203) (b := pre.length + 1) (l' := [.inl (0, [some none, some none, some none, some none, some none, some none, some none, none, none]), .inr (0, 203, fun _ => none)]) (ck' := 1) (cs' := 203) Z rfl rfl dX0_init_8 rfl (by decide) (Nat.le_of_ble_eq_true rfl) (Nat.le_of_ble_eq_true rfl) rfl rfl rfl ?_
  refine zx_putR (j := 0) (l' := [.inl (0, [some (some (pre.length + 1)), some none, some none, some none, some none, some none, some none, none, none]), .inr (0, 203, fun _ => none)]) f_X0_9 cl_X0 rfl rfl rfl (fun a => ⟨rfl, rfl⟩) dX0_init_10 rfl rfl (Nat.le_of_ble_eq_true rfl) rfl rfl ?_
  refine zw_aload_n 0 dX0_init_13 rfl rfl rfl ?_
  refine zw_sipush (v := (203 : Int32)) dX0_init_14 (by decide) rfl ?_
  refine zx_newI (n := 203) (b := pre.length + 2) (l' := [.inl (0, [some (some (pre.length + 1)), some none, some none, some none, some none, some none, some none, none, none]), .inr (0, 203, fun _ => none), .inr (0, 203, fun _ => none)]) (ck' := 2) (cs' := 406) Z rfl rfl dX0_init_17 rfl (by decide) (Nat.le_of_ble_eq_true rfl) (Nat.le_of_ble_eq_true rfl) rfl rfl rfl ?_
  refine zx_putR (j := 0) (l' := [.inl (0, [some (some (pre.length + 1)), some (some (pre.length + 2)), some none, some none, some none, some none, some none, none, none]), .inr (0, 203, fun _ => none), .inr (0, 203, fun _ => none)]) f_X0_15 cl_X0 rfl rfl rfl (fun a => ⟨rfl, rfl⟩) dX0_init_19 rfl rfl (Nat.le_of_ble_eq_true rfl) rfl rfl ?_
  refine zw_aload_n 0 dX0_init_22 rfl rfl rfl ?_
  refine zw_sipush (v := (203 : Int32)) dX0_init_23 (by decide) rfl ?_
  refine zx_newI (n := 203) (b := pre.length + 3) (l' := [.inl (0, [some (some (pre.length + 1)), some (some (pre.length + 2)), some none, some none, some none, some none, some none, none, none]), .inr (0, 203, fun _ => none), .inr (0, 203, fun _ => none), .inr (0, 203, fun _ => none)]) (ck' := 3) (cs' := 609) Z rfl rfl dX0_init_26 rfl (by decide) (Nat.le_of_ble_eq_true rfl) (Nat.le_of_ble_eq_true rfl) rfl rfl rfl ?_
  refine zx_putR (j := 0) (l' := [.inl (0, [some (some (pre.length + 1)), some (some (pre.length + 2)), some (some (pre.length + 3)), some none, some none, some none, some none, none, none]), .inr (0, 203, fun _ => none), .inr (0, 203, fun _ => none), .inr (0, 203, fun _ => none)]) f_X0_18 cl_X0 rfl rfl rfl (fun a => ⟨rfl, rfl⟩) dX0_init_28 rfl rfl (Nat.le_of_ble_eq_true rfl) rfl rfl ?_
  refine zw_aload_n 0 dX0_init_31 rfl rfl rfl ?_
  refine zw_sipush (v := (203 : Int32)) dX0_init_32 (by decide) rfl ?_
  refine zx_newI (n := 203) (b := pre.length + 4) (l' := [.inl (0, [some (some (pre.length + 1)), some (some (pre.length + 2)), some (some (pre.length + 3)), some none, some none, some none, some none, none, none]), .inr (0, 203, fun _ => none), .inr (0, 203, fun _ => none), .inr (0, 203, fun _ => none), .inr (0, 203, fun _ => none)]) (ck' := 4) (cs' := 812) Z rfl rfl dX0_init_35 rfl (by decide) (Nat.le_of_ble_eq_true rfl) (Nat.le_of_ble_eq_true rfl) rfl rfl rfl ?_
  refine zx_putR (j := 0) (l' := [.inl (0, [some (some (pre.length + 1)), some (some (pre.length + 2)), some (some (pre.length + 3)), some (some (pre.length + 4)), some none, some none, some none, none, none]), .inr (0, 203, fun _ => none), .inr (0, 203, fun _ => none), .inr (0, 203, fun _ => none), .inr (0, 203, fun _ => none)]) f_X0_21 cl_X0 rfl rfl rfl (fun a => ⟨rfl, rfl⟩) dX0_init_37 rfl rfl (Nat.le_of_ble_eq_true rfl) rfl rfl ?_
  refine zw_aload_n 0 dX0_init_40 rfl rfl rfl ?_
  refine zw_sipush (v := (203 : Int32)) dX0_init_41 (by decide) rfl ?_
  refine zx_newZ (n := 203) (b := pre.length + 5) (l' := [.inl (0, [some (some (pre.length + 1)), some (some (pre.length + 2)), some (some (pre.length + 3)), some (some (pre.length + 4)), some none, some none, some none, none, none]), .inr (0, 203, fun _ => none), .inr (0, 203, fun _ => none), .inr (0, 203, fun _ => none), .inr (0, 203, fun _ => none), .inr (1, 203, fun _ => none)]) (ck' := 5) (cs' := 1015) Z rfl rfl dX0_init_44 rfl (by decide) (Nat.le_of_ble_eq_true rfl) (Nat.le_of_ble_eq_true rfl) rfl rfl rfl ?_
  refine zx_putR (j := 0) (l' := [.inl (0, [some (some (pre.length + 1)), some (some (pre.length + 2)), some (some (pre.length + 3)), some (some (pre.length + 4)), some (some (pre.length + 5)), some none, some none, none, none]), .inr (0, 203, fun _ => none), .inr (0, 203, fun _ => none), .inr (0, 203, fun _ => none), .inr (0, 203, fun _ => none), .inr (1, 203, fun _ => none)]) f_X0_24 cl_X0 rfl rfl rfl (fun a => ⟨rfl, rfl⟩) dX0_init_46 rfl rfl (Nat.le_of_ble_eq_true rfl) rfl rfl ?_
  refine zw_aload_n 0 dX0_init_49 rfl rfl rfl ?_
  refine zw_bipush (v := (6 : Int32)) dX0_init_50 (by decide) rfl ?_
  refine zx_newI (n := 6) (b := pre.length + 6) (l' := [.inl (0, [some (some (pre.length + 1)), some (some (pre.length + 2)), some (some (pre.length + 3)), some (some (pre.length + 4)), some (some (pre.length + 5)), some none, some none, none, none]), .inr (0, 203, fun _ => none), .inr (0, 203, fun _ => none), .inr (0, 203, fun _ => none), .inr (0, 203, fun _ => none), .inr (1, 203, fun _ => none), .inr (0, 6, fun _ => none)]) (ck' := 6) (cs' := 1021) Z rfl rfl dX0_init_52 rfl (by decide) (Nat.le_of_ble_eq_true rfl) (Nat.le_of_ble_eq_true rfl) rfl rfl rfl ?_
  refine zx_putR (j := 0) (l' := [.inl (0, [some (some (pre.length + 1)), some (some (pre.length + 2)), some (some (pre.length + 3)), some (some (pre.length + 4)), some (some (pre.length + 5)), some (some (pre.length + 6)), some none, none, none]), .inr (0, 203, fun _ => none), .inr (0, 203, fun _ => none), .inr (0, 203, fun _ => none), .inr (0, 203, fun _ => none), .inr (1, 203, fun _ => none), .inr (0, 6, fun _ => none)]) f_X0_28 cl_X0 rfl rfl rfl (fun a => ⟨rfl, rfl⟩) dX0_init_54 rfl rfl (Nat.le_of_ble_eq_true rfl) rfl rfl ?_
  refine zw_aload_n 0 dX0_init_57 rfl rfl rfl ?_
  refine zx_new (ck' := 7) (cs' := 1025) (Z.up (by rw [List.length_append]; exact Nat.le_add_right _ _)) (ci := 3) (fs := [some none, some none, none, none]) rfl in_X3 cl_X3 c_X0_31 u_X3 z0_X3 dX0_init_58 (Nat.le_of_ble_eq_true rfl) (Nat.le_of_ble_eq_true rfl) rfl rfl rfl ?_
  refine zw_dup dX0_init_61 rfl rfl ?_
  refine zx_ctorN (ck' := 9) (cs' := 1037) (c_X3_init (Z.up (by rw [List.length_append]; exact Nat.le_add_right _ _))) my_X3_init rfl rfl k_X0_33 i_X3_init dX0_init_62 (by decide) (Nat.le_of_ble_eq_true rfl) (Nat.le_of_ble_eq_true rfl) (Nat.le_of_ble_eq_true rfl) rfl rfl rfl ?_
  refine zw.shp (sh' := pre ++ [.inl (0, [some (some (pre.length + 1)), some (some (pre.length + 2)), some (some (pre.length + 3)), some (some (pre.length + 4)), some (some (pre.length + 5)), some (some (pre.length + 6)), some none, none, none]), .inr (0, 203, fun _ => none), .inr (0, 203, fun _ => none), .inr (0, 203, fun _ => none), .inr (0, 203, fun _ => none), .inr (1, 203, fun _ => none), .inr (0, 6, fun _ => none), .inl (3, [some (some (pre.length + 8)), some (some (pre.length + 9)), none, none]), .inr (0, 6, fun _ => none), .inr (0, 6, fun _ => none)]) (by rw [List.append_assoc, List.length_append]; rfl) ?_
  refine zw.st (st' := [.ref (pre.length + 7), .ref (pre.length)]) (by rw [List.length_append]; rfl) ?_
  refine zx_putR (j := 0) (l' := [.inl (0, [some (some (pre.length + 1)), some (some (pre.length + 2)), some (some (pre.length + 3)), some (some (pre.length + 4)), some (some (pre.length + 5)), some (some (pre.length + 6)), some (some (pre.length + 7)), none, none]), .inr (0, 203, fun _ => none), .inr (0, 203, fun _ => none), .inr (0, 203, fun _ => none), .inr (0, 203, fun _ => none), .inr (1, 203, fun _ => none), .inr (0, 6, fun _ => none), .inl (3, [some (some (pre.length + 8)), some (some (pre.length + 9)), none, none]), .inr (0, 6, fun _ => none), .inr (0, 6, fun _ => none)]) f_X0_34 cl_X0 rfl rfl rfl (fun a => ⟨rfl, rfl⟩) dX0_init_65 rfl rfl (Nat.le_of_ble_eq_true rfl) rfl rfl ?_
  exact zw_return dX0_init_68 rfl (Nat.le_refl _) (Nat.le_refl _) ⟨rfl, rfl, rfl⟩
def hf (i : Nat) : Nat → Option Nat := fun j => if j < i then some (2 * j + 5) else none
theorem hf_0 : hf 0 = fun _ => none := by
  funext j
  exact if_neg (Nat.not_lt_zero j)
theorem hf_up (i : Nat) : va_up (hf i) i (some (2 * i + 5)) = hf (i + 1) := by
  funext j
  unfold va_up hf
  by_cases e : j = i
  · subst e
    rw [if_pos rfl, if_pos (Nat.lt_succ_self j)]
  · rw [if_neg e]
    by_cases hj : j < i
    · rw [if_pos hj, if_pos (by omega)]
    · rw [if_neg hj, if_neg (by omega)]
def prs : Nat → zw_S
  | 0 => []
  | i + 1 => prs i ++ fX5 (2 * i + 5)
theorem prs_len : ∀ i, (prs i).length = 2 * i
  | 0 => rfl
  | i + 1 => by
    rw [prs, List.length_append, prs_len i]
    show 2 * i + 2 = 2 * (i + 1)
    omega
def shH (p0 p1 p2 : zw_E) (i : Nat) : zw_S := p0 :: p1 :: p2 :: .inl (1, [some (some 4), none, none]) :: .inr (3, 10, hf i) :: prs i
theorem shH_len (p0 p1 p2 : zw_E) (i : Nat) : (shH p0 p1 p2 i).length = 2 * i + 5 := by
  unfold shH
  simp only [List.length_cons]
  rw [prs_len]
set_option maxRecDepth 100000 in
set_option maxHeartbeats 4000000 in
theorem X1_loop {p0 p1 p2 : zw_E} {h : zw_H} (Z : zZ h 3) : ∀ i, i ≤ 10 → zw mX1_init 2 21 160 (zx_q (shH p0 p1 p2 10) h) 15 [(1, .int (nI i)), (0, .ref 3)] [] (shH p0 p1 p2 i) h (1 + 2 * i) (10 + 15 * i) := by
  refine lp_up ?_ ?_
  · refine zw_iload_n 0 dX1_init_15 rfl rfl rfl ?_
    refine zw_bipush (v := (10 : Int32)) dX1_init_16 (by decide) rfl ?_
    refine zw_icmp_ge (tg := 40) dX1_init_18 (by decide) rfl (fun c => ?_) (fun c => absurd (by decide) c)
    exact zw_return dX1_init_40 rfl (Nat.le_refl _) (Nat.le_refl _) ⟨rfl, rfl, rfl⟩
  · intro i hi ih
    have Z' : zZ h (shH p0 p1 p2 i).length := Z.up (by rw [shH_len]; omega)
    refine zw_iload_n 0 dX1_init_15 rfl rfl rfl ?_
    refine zw_bipush (v := (10 : Int32)) dX1_init_16 (by decide) rfl ?_
    refine zw_icmp_ge (tg := 40) dX1_init_18 (by decide) rfl (fun c => ?_) (fun c => ?_)
    · have := zle (a := 10) c
      omega
    · refine zw_aload_n 1 dX1_init_21 rfl rfl rfl ?_
      refine zw_getR (r := 4) f_X1_11 dX1_init_22 (rfl : (shH p0 p1 p2 i)[3]? = some (.inl (1, [some (some 4), none, none]))) rfl rfl ?_
      refine zw_iload_n 0 dX1_init_25 rfl rfl rfl ?_
      refine zx_new (ck' := 2 + 2 * i) (cs' := 17 + 15 * i) Z' (ci := 5) (fs := [some none, none, none, none, none, none, none]) rfl in_X5 cl_X5 c_X1_9 u_X5 z0_X5 dX1_init_26 (by omega) (by omega) (by omega) (by omega) rfl ?_
      refine zw_dup dX1_init_29 rfl rfl ?_
      refine zx_ctorN (ck' := 3 + 2 * i) (cs' := 25 + 15 * i) (c_X5_init Z') my_X5_init rfl rfl k_X1_17 i_X5_init dX1_init_30 (by decide) (Nat.le_of_ble_eq_true rfl) (by omega) (by omega) (by omega) (by omega) rfl ?_
      refine zw_aast i dX1_init_33 (q := 4) (n := 10) (f := hf i) rfl (fs := [some (some ((shH p0 p1 p2 i).length + 1)), none, none, none, none, none, none]) (zx_at (j := 0) rfl) ⟨rfl, hi⟩ (by decide) rfl ?_
      refine zw.shp (sh' := shH p0 p1 p2 (i + 1)) ?_ ?_
      · rw [shH_len]
        show p0 :: p1 :: p2 :: .inl (1, [some (some 4), none, none]) :: .inr (3, 10, va_up (hf i) i (some (2 * i + 5))) :: (prs i ++ fX5 (2 * i + 5)) = _
        rw [hf_up]
        rfl
      refine zw_iinc (v := nI (i + 1)) (lv' := [(1, .int (nI (i + 1))), (0, .ref 3)]) 0 dX1_init_34 rfl (nI_1 i) (by decide) rfl rfl ?_
      refine zw_goto (np := 15) dX1_init_37 (by decide) ?_
      exact zw.cc (by omega) (by omega) ih
set_option maxRecDepth 100000 in
set_option maxHeartbeats 4000000 in
theorem c_X1_init {p0 p1 p2 : zw_E} {h : zw_H} (Z : zZ h 3) : zc 2 21 160 mX1_init [.ref 3] [p0, p1, p2, .inl (1, [some none, none, none])] h (zx_q (shH p0 p1 p2 10) h) := by
  refine zc_of rfl pn_X1 (fun _ => Nat.le_of_ble_eq_true rfl) ?_
  refine zw.to (lv' := [(0, .ref 3)]) (st' := []) (h' := h) ?_ rfl rfl rfl
  refine zw_aload_n 0 dX1_init_0 rfl rfl rfl ?_
  refine zw_objInit k_X1_3 w_obj1 w_obj2 dX1_init_1 (by decide) (Nat.le_of_ble_eq_true rfl) rfl ?_
  refine zw_aload_n 0 dX1_init_4 rfl rfl rfl ?_
  refine zw_bipush (v := (10 : Int32)) dX1_init_5 (by decide) rfl ?_
  refine zw_newS (n := 10) c_X1_9 dX1_init_7 rfl (by decide) (Nat.le_of_ble_eq_true rfl) (Nat.le_of_ble_eq_true rfl) rfl ?_
  refine zw.to (lv' := [(0, .ref 3)]) (st' := [.ref 4, .ref 3]) (h' := h) ?_ rfl rfl (Z.z (show 3 ≤ 4 by decide))
  refine zw_putR (ci := 1) (q := 3) (fs := [some none, none, none]) f_X1_11 cl_X1 rfl rfl rfl (fun a => ⟨rfl, rfl⟩) dX1_init_10 rfl (by decide) rfl ?_
  refine zw_iconst (v := (0 : Int32)) dX1_init_13 (by decide) rfl ?_
  refine zw_istore_n (lv' := [(1, .int (nI 0)), (0, .ref 3)]) dX1_init_14 rfl (by decide) rfl rfl ?_
  refine zw.shp (sh' := shH p0 p1 p2 0) ?_ (X1_loop Z 0 (by decide))
  unfold shH
  rw [hf_0]
  rfl
def zK (F : List (Option (Option Nat))) (n : Nat) : zw_S := .inl (7, F) :: (zSK.drop 1).take n
def zh0 : zw_H := (fun _ _ => 0, fun _ _ => 0)
theorem zh0_Z (n : Nat) : zZ zh0 n := fun _ _ => ⟨fun _ => rfl, fun _ => rfl⟩
set_option maxRecDepth 100000 in
set_option maxHeartbeats 8000000 in
theorem c_X7_init : zc 6 55 2991 mX7_init [.ref 0] [.inl (7, [some none, some none, some none, some none, some none, some none, some none, some none, some none, some none])] zh0 (fun r s' h' => r = none ∧ s' = zSK ∧ ∃ k : zw_H, SO k 1 2 (s0 5) ∧ Fr (fun a _ => a = 1 ∨ a = 2) zh0 k ∧ CC h' 5 ∧ CR h' (s0 5) ∧ Fr (fun a b => pF a b ∨ pRo a b) k h') := by
  refine zc_of rfl pn_X7 (fun _ => Nat.le_of_ble_eq_true rfl) ?_
  refine zw.to (lv' := [(0, .ref 0)]) (st' := []) (h' := zh0) ?_ rfl rfl rfl
  refine zw.shp (sh' := zK [some none, some none, some none, some none, some none, some none, some none, some none, some none, some none] 0) rfl ?_
  refine zw_aload_n 0 dX7_init_0 rfl rfl rfl ?_
  refine zw_objInit k_X7_1 w_obj1 w_obj2 dX7_init_1 (by decide) (Nat.le_of_ble_eq_true rfl) rfl ?_
  refine zw_aload_n 0 dX7_init_4 rfl rfl rfl ?_
  refine zx_new (sh := zK [some none, some none, some none, some none, some none, some none, some none, some none, some none, some none] 0) (ck' := 1) (cs' := 7) (zh0_Z _) (ci := 5) (fs := [some none, none, none, none, none, none, none]) rfl in_X5 cl_X5 c_X7_7 u_X5 z0_X5 dX7_init_5 (Nat.le_of_ble_eq_true rfl) (Nat.le_of_ble_eq_true rfl) rfl rfl rfl ?_
  refine zw_dup dX7_init_8 rfl rfl ?_
  refine zx_ctorN (ck' := 2) (cs' := 15) (c_X5_init (zh0_Z _)) my_X5_init rfl rfl k_X7_9 i_X5_init dX7_init_9 (by decide) (Nat.le_of_ble_eq_true rfl) (Nat.le_of_ble_eq_true rfl) (Nat.le_of_ble_eq_true rfl) rfl rfl rfl ?_
  refine zw.shp (sh' := zK [some none, some none, some none, some none, some none, some none, some none, some none, some none, some none] 2) rfl ?_
  refine zw.st (st' := [.ref 1, .ref 0]) rfl ?_
  refine zw_putR (ci := 7) (q := 0) (fs := [some none, some none, some none, some none, some none, some none, some none, some none, some none, some none]) f_X7_10 cl_X7 rfl rfl rfl (fun a => ⟨rfl, rfl⟩) dX7_init_12 rfl (by decide) rfl ?_
  refine zw.shp (sh' := zK [some (some 1), some none, some none, some none, some none, some none, some none, some none, some none, some none] 2) rfl ?_
  refine zw_aload_n 0 dX7_init_15 rfl rfl rfl ?_
  refine zx_new (sh := zK [some (some 1), some none, some none, some none, some none, some none, some none, some none, some none, some none] 2) (ck' := 3) (cs' := 18) (zh0_Z _) (ci := 1) (fs := [some none, none, none]) rfl in_X1 cl_X1 c_X7_16 u_X1 z0_X1 dX7_init_16 (Nat.le_of_ble_eq_true rfl) (Nat.le_of_ble_eq_true rfl) rfl rfl rfl ?_
  refine zw_dup dX7_init_19 rfl rfl ?_
  refine zx_ctor (sf := (shH (.inl (7, [some (some 1), some none, some none, some none, some none, some none, some none, some none, some none, some none])) (.inl (5, [some (some 2), none, none, none, none, none, none])) (.inr (0, 8, fun _ => none)) 10).drop 3) (ck' := 24) (cs' := 178) (c_X1_init (zh0_Z _)) my_X1_init rfl rfl k_X7_18 i_X1_init dX7_init_20 (by decide) (Nat.le_of_ble_eq_true rfl) (Nat.le_of_ble_eq_true rfl) (Nat.le_of_ble_eq_true rfl) rfl rfl rfl ?_
  refine zw.shp (sh' := zK [some (some 1), some none, some none, some none, some none, some none, some none, some none, some none, some none] 24) rfl ?_
  refine zw.st (st' := [.ref 3, .ref 0]) rfl ?_
  refine zw_putR (ci := 7) (q := 0) (fs := [some (some 1), some none, some none, some none, some none, some none, some none, some none, some none, some none]) f_X7_19 cl_X7 rfl rfl rfl (fun a => ⟨rfl, rfl⟩) dX7_init_23 rfl (by decide) rfl ?_
  refine zw.shp (sh' := zK [some (some 1), some (some 3), some none, some none, some none, some none, some none, some none, some none, some none] 24) rfl ?_
  refine zw_aload_n 0 dX7_init_26 rfl rfl rfl ?_
  refine zx_new (sh := zK [some (some 1), some (some 3), some none, some none, some none, some none, some none, some none, some none, some none] 24) (ck' := 25) (cs' := 180) (zh0_Z _) (ci := 6) (fs := [some none, none]) rfl in_X6 cl_X6 c_X7_23 u_X6 z0_X6 dX7_init_27 (Nat.le_of_ble_eq_true rfl) (Nat.le_of_ble_eq_true rfl) rfl rfl rfl ?_
  refine zw_dup dX7_init_30 rfl rfl ?_
  refine zx_ctorN (ck' := 26) (cs' := 200) (c_X6_init (zh0_Z _)) my_X6_init rfl rfl k_X7_25 i_X6_init dX7_init_31 (by decide) (Nat.le_of_ble_eq_true rfl) (Nat.le_of_ble_eq_true rfl) (Nat.le_of_ble_eq_true rfl) rfl rfl rfl ?_
  refine zw.shp (sh' := zK [some (some 1), some (some 3), some none, some none, some none, some none, some none, some none, some none, some none] 26) rfl ?_
  refine zw.st (st' := [.ref 25, .ref 0]) rfl ?_
  refine zw_putR (ci := 7) (q := 0) (fs := [some (some 1), some (some 3), some none, some none, some none, some none, some none, some none, some none, some none]) f_X7_26 cl_X7 rfl rfl rfl (fun a => ⟨rfl, rfl⟩) dX7_init_34 rfl (by decide) rfl ?_
  refine zw.shp (sh' := zK [some (some 1), some (some 3), some (some 25), some none, some none, some none, some none, some none, some none, some none] 26) rfl ?_
  refine zw_aload_n 0 dX7_init_37 rfl rfl rfl ?_
  refine zx_new (sh := zK [some (some 1), some (some 3), some (some 25), some none, some none, some none, some none, some none, some none, some none] 26) (ck' := 27) (cs' := 209) (zh0_Z _) (ci := 0) (fs := [some none, some none, some none, some none, some none, some none, some none, none, none]) rfl in_X0 cl_X0 c_X7_30 u_X0 z0_X0 dX7_init_38 (Nat.le_of_ble_eq_true rfl) (Nat.le_of_ble_eq_true rfl) rfl rfl rfl ?_
  refine zw_dup dX7_init_41 rfl rfl ?_
  refine zx_ctorN (ck' := 36) (cs' := 1246) (c_X0_init (zh0_Z _)) my_X0_init rfl rfl k_X7_32 i_X0_init dX7_init_42 (by decide) (Nat.le_of_ble_eq_true rfl) (Nat.le_of_ble_eq_true rfl) (Nat.le_of_ble_eq_true rfl) rfl rfl rfl ?_
  refine zw.shp (sh' := zK [some (some 1), some (some 3), some (some 25), some none, some none, some none, some none, some none, some none, some none] 36) rfl ?_
  refine zw.st (st' := [.ref 27, .ref 0]) rfl ?_
  refine zw_putR (ci := 7) (q := 0) (fs := [some (some 1), some (some 3), some (some 25), some none, some none, some none, some none, some none, some none, some none]) f_X7_33 cl_X7 rfl rfl rfl (fun a => ⟨rfl, rfl⟩) dX7_init_45 rfl (by decide) rfl ?_
  refine zw.shp (sh' := zK [some (some 1), some (some 3), some (some 25), some (some 27), some none, some none, some none, some none, some none, some none] 36) rfl ?_
  refine zw_aload_n 0 dX7_init_48 rfl rfl rfl ?_
  refine zx_new (sh := zK [some (some 1), some (some 3), some (some 25), some (some 27), some none, some none, some none, some none, some none, some none] 36) (ck' := 37) (cs' := 1253) (zh0_Z _) (ci := 2) (fs := [some none, some none, some none, some none, some none, none, none]) rfl in_X2 cl_X2 c_X7_37 u_X2 z0_X2 dX7_init_49 (Nat.le_of_ble_eq_true rfl) (Nat.le_of_ble_eq_true rfl) rfl rfl rfl ?_
  refine zw_dup dX7_init_52 rfl rfl ?_
  refine zx_ctorN (ck' := 42) (cs' := 2072) (c_X2_init (zh0_Z _)) my_X2_init rfl rfl k_X7_39 i_X2_init dX7_init_53 (by decide) (Nat.le_of_ble_eq_true rfl) (Nat.le_of_ble_eq_true rfl) (Nat.le_of_ble_eq_true rfl) rfl rfl rfl ?_
  refine zw.shp (sh' := zK [some (some 1), some (some 3), some (some 25), some (some 27), some none, some none, some none, some none, some none, some none] 42) rfl ?_
  refine zw.st (st' := [.ref 37, .ref 0]) rfl ?_
  refine zw_putR (ci := 7) (q := 0) (fs := [some (some 1), some (some 3), some (some 25), some (some 27), some none, some none, some none, some none, some none, some none]) f_X7_40 cl_X7 rfl rfl rfl (fun a => ⟨rfl, rfl⟩) dX7_init_56 rfl (by decide) rfl ?_
  refine zw.shp (sh' := zK [some (some 1), some (some 3), some (some 25), some (some 27), some (some 37), some none, some none, some none, some none, some none] 42) rfl ?_
  refine zw_aload_n 0 dX7_init_59 rfl rfl rfl ?_
  refine zx_new (sh := zK [some (some 1), some (some 3), some (some 25), some (some 27), some (some 37), some none, some none, some none, some none, some none] 42) (ck' := 43) (cs' := 2077) (zh0_Z _) (ci := 4) (fs := [some none, some none, some none, some none, none]) rfl in_X4 cl_X4 c_X7_44 u_X4 z0_X4 dX7_init_60 (Nat.le_of_ble_eq_true rfl) (Nat.le_of_ble_eq_true rfl) rfl rfl rfl ?_
  refine zw_dup dX7_init_63 rfl rfl ?_
  refine zx_ctorN (ck' := 47) (cs' := 2889) (c_X4_init (zh0_Z _)) my_X4_init rfl rfl k_X7_46 i_X4_init dX7_init_64 (by decide) (Nat.le_of_ble_eq_true rfl) (Nat.le_of_ble_eq_true rfl) (Nat.le_of_ble_eq_true rfl) rfl rfl rfl ?_
  refine zw.shp (sh' := zK [some (some 1), some (some 3), some (some 25), some (some 27), some (some 37), some none, some none, some none, some none, some none] 47) rfl ?_
  refine zw.st (st' := [.ref 43, .ref 0]) rfl ?_
  refine zw_putR (ci := 7) (q := 0) (fs := [some (some 1), some (some 3), some (some 25), some (some 27), some (some 37), some none, some none, some none, some none, some none]) f_X7_47 cl_X7 rfl rfl rfl (fun a => ⟨rfl, rfl⟩) dX7_init_67 rfl (by decide) rfl ?_
  refine zw.shp (sh' := zK [some (some 1), some (some 3), some (some 25), some (some 27), some (some 37), some (some 43), some none, some none, some none, some none] 47) rfl ?_
  refine zw_aload_n 0 dX7_init_70 rfl rfl rfl ?_
  refine zx_new (sh := zK [some (some 1), some (some 3), some (some 25), some (some 27), some (some 37), some (some 43), some none, some none, some none, some none] 47) (ck' := 48) (cs' := 2893) (zh0_Z _) (ci := 3) (fs := [some none, some none, none, none]) rfl in_X3 cl_X3 c_X7_51 u_X3 z0_X3 dX7_init_71 (Nat.le_of_ble_eq_true rfl) (Nat.le_of_ble_eq_true rfl) rfl rfl rfl ?_
  refine zw_dup dX7_init_74 rfl rfl ?_
  refine zx_ctorN (ck' := 50) (cs' := 2905) (c_X3_init (zh0_Z _)) my_X3_init rfl rfl k_X7_53 i_X3_init dX7_init_75 (by decide) (Nat.le_of_ble_eq_true rfl) (Nat.le_of_ble_eq_true rfl) (Nat.le_of_ble_eq_true rfl) rfl rfl rfl ?_
  refine zw.shp (sh' := zK [some (some 1), some (some 3), some (some 25), some (some 27), some (some 37), some (some 43), some none, some none, some none, some none] 50) rfl ?_
  refine zw.st (st' := [.ref 48, .ref 0]) rfl ?_
  refine zw_putR (ci := 7) (q := 0) (fs := [some (some 1), some (some 3), some (some 25), some (some 27), some (some 37), some (some 43), some none, some none, some none, some none]) f_X7_54 cl_X7 rfl rfl rfl (fun a => ⟨rfl, rfl⟩) dX7_init_78 rfl (by decide) rfl ?_
  refine zw.shp (sh' := zK [some (some 1), some (some 3), some (some 25), some (some 27), some (some 37), some (some 43), some (some 48), some none, some none, some none] 50) rfl ?_
  refine zw_aload_n 0 dX7_init_81 rfl rfl rfl ?_
  refine zx_new (sh := zK [some (some 1), some (some 3), some (some 25), some (some 27), some (some 37), some (some 43), some (some 48), some none, some none, some none] 50) (ck' := 51) (cs' := 2909) (zh0_Z _) (ci := 3) (fs := [some none, some none, none, none]) rfl in_X3 cl_X3 c_X7_51 u_X3 z0_X3 dX7_init_82 (Nat.le_of_ble_eq_true rfl) (Nat.le_of_ble_eq_true rfl) rfl rfl rfl ?_
  refine zw_dup dX7_init_85 rfl rfl ?_
  refine zx_ctorN (ck' := 53) (cs' := 2921) (c_X3_init (zh0_Z _)) my_X3_init rfl rfl k_X7_53 i_X3_init dX7_init_86 (by decide) (Nat.le_of_ble_eq_true rfl) (Nat.le_of_ble_eq_true rfl) (Nat.le_of_ble_eq_true rfl) rfl rfl rfl ?_
  refine zw.shp (sh' := zK [some (some 1), some (some 3), some (some 25), some (some 27), some (some 37), some (some 43), some (some 48), some none, some none, some none] 53) rfl ?_
  refine zw.st (st' := [.ref 51, .ref 0]) rfl ?_
  refine zw_putR (ci := 7) (q := 0) (fs := [some (some 1), some (some 3), some (some 25), some (some 27), some (some 37), some (some 43), some (some 48), some none, some none, some none]) f_X7_58 cl_X7 rfl rfl rfl (fun a => ⟨rfl, rfl⟩) dX7_init_89 rfl (by decide) rfl ?_
  refine zw.shp (sh' := zK [some (some 1), some (some 3), some (some 25), some (some 27), some (some 37), some (some 43), some (some 48), some (some 51), some none, some none] 53) rfl ?_
  refine zw_aload_n 0 dX7_init_92 rfl rfl rfl ?_
  refine zw_bipush (v := (6 : Int32)) dX7_init_93 (by decide) rfl ?_
  refine zw_newI (n := 6) w_arrI dX7_init_95 rfl (by decide) (Nat.le_of_ble_eq_true rfl) (Nat.le_of_ble_eq_true rfl) rfl ?_
  rw [(zh0_Z 0).z (Nat.zero_le _)]
  refine zw.shp (sh' := zK [some (some 1), some (some 3), some (some 25), some (some 27), some (some 37), some (some 43), some (some 48), some (some 51), some none, some none] 54) rfl ?_
  refine zw.st (st' := [.ref 54, .ref 0]) rfl ?_
  refine zw.cc (ck' := 54) (cs' := 2927) rfl rfl ?_
  refine zw_putR (ci := 7) (q := 0) (fs := [some (some 1), some (some 3), some (some 25), some (some 27), some (some 37), some (some 43), some (some 48), some (some 51), some none, some none]) f_X7_61 cl_X7 rfl rfl rfl (fun a => ⟨rfl, rfl⟩) dX7_init_97 rfl (by decide) rfl ?_
  refine zw.shp (sh' := zK [some (some 1), some (some 3), some (some 25), some (some 27), some (some 37), some (some 43), some (some 48), some (some 51), some (some 54), some none] 54) rfl ?_
  refine zw_aload_n 0 dX7_init_100 rfl rfl rfl ?_
  refine zw_bipush (v := (64 : Int32)) dX7_init_101 (by decide) rfl ?_
  refine zw_newI (n := 64) w_arrI dX7_init_103 rfl (by decide) (Nat.le_of_ble_eq_true rfl) (Nat.le_of_ble_eq_true rfl) rfl ?_
  rw [(zh0_Z 0).z (Nat.zero_le _)]
  refine zw.shp (sh' := zK [some (some 1), some (some 3), some (some 25), some (some 27), some (some 37), some (some 43), some (some 48), some (some 51), some (some 54), some none] 55) rfl ?_
  refine zw.st (st' := [.ref 55, .ref 0]) rfl ?_
  refine zw.cc (ck' := 55) (cs' := 2991) rfl rfl ?_
  refine zw_putR (ci := 7) (q := 0) (fs := [some (some 1), some (some 3), some (some 25), some (some 27), some (some 37), some (some 43), some (some 48), some (some 51), some (some 54), some none]) f_X7_65 cl_X7 rfl rfl rfl (fun a => ⟨rfl, rfl⟩) dX7_init_105 rfl (by decide) rfl ?_
  refine zw.shp (sh' := zK [some (some 1), some (some 3), some (some 25), some (some 27), some (some 37), some (some 43), some (some 48), some (some 51), some (some 54), some (some 55)] 55) rfl ?_
  refine zw_aload_n 0 dX7_init_108 rfl rfl rfl ?_
  refine zw.shp (sh' := zSK) rfl ?_
  refine zw_getR (r := 1) f_X7_10 dX7_init_109 zk_0 rfl rfl ?_
  refine zw_iconst (v := (5 : Int32)) dX7_init_112 (by decide) rfl ?_
  refine zw_callV (n := 1) (As := [.int (5 : Int32)]) (rest := []) (k_X5_reset (n := 5)) my_X5_reset rfl rfl k_X7_68 i_X5_reset s_X5_reset zk_1 rfl dX7_init_113 (by decide) (Nat.le_of_ble_eq_true rfl) (Nat.le_of_ble_eq_true rfl) (Nat.le_of_ble_eq_true rfl) rfl (fun r s1 k1 hq => ?_)
  obtain ⟨rfl, rfl, r1⟩ := hq
  refine zw.st (st' := []) rfl ?_
  refine zw_aload_n 0 dX7_init_116 rfl rfl rfl ?_
  refine zw_callV (n := 0) (As := []) (rest := []) (k_X7_refresh (s := s0 5) (SV.s0 (by decide) (by decide)) (Nat.zero_and _) r1.1 (fun e => absurd (e.symm.trans (r1.2.1 27 7 (by decide))) (by decide))) my_X7_refresh rfl rfl k_X7_72 i_X7_refresh s_X7_refresh zk_0 rfl dX7_init_117 (by decide) (Nat.le_of_ble_eq_true rfl) (Nat.le_of_ble_eq_true rfl) (Nat.le_of_ble_eq_true rfl) rfl (fun r s1 k2 hq => ?_)
  obtain ⟨rfl, rfl, r2⟩ := hq
  refine zw.st (st' := []) rfl ?_
  exact zw_return dX7_init_120 rfl (Nat.le_refl _) (Nat.le_refl _) ⟨rfl, rfl, k1, r1.1, r1.2, r2⟩
set_option maxRecDepth 100000 in
set_option maxHeartbeats 8000000 in
theorem c_X8_init {h : zw_H} (Z : zZ h 56) : zc 6 9 2274 mX8_init [.ref 56] (zSK ++ [.inl (8, [some none, none, some none, none, some none, some none, some none, none, none, some none, none, some none, some none, some none])]) h (fun r s' h' => r = none ∧ s' = zSH ∧ RT h' 5 ∧ RP h' (s0 5) ∧ RA h' (s0 5) ∧ Fr pT h h') := by
  refine zc_of rfl pn_X8 (fun _ => Nat.le_of_ble_eq_true rfl) ?_
  refine zw.to (lv' := [(0, .ref 56)]) (st' := []) (h' := h) ?_ rfl rfl rfl
  refine zw_aload_n 0 dX8_init_0 rfl rfl rfl ?_
  refine zw_objInit k_X8_1 w_obj1 w_obj2 dX8_init_1 (by decide) (Nat.le_of_ble_eq_true rfl) rfl ?_
  refine zw_aload_n 0 dX8_init_4 rfl rfl rfl ?_
  refine zw_sipush (v := (154 : Int32)) dX8_init_5 (by decide) rfl ?_
  refine zx_newI (pre := zSK) (n := 154) (b := 57) (l' := [.inl (8, [some none, none, some none, none, some none, some none, some none, none, none, some none, none, some none, some none, some none]), .inr (0, 154, fun _ => none)]) (ck' := 1) (cs' := 154) Z rfl rfl dX8_init_8 rfl (by decide) (Nat.le_of_ble_eq_true rfl) (Nat.le_of_ble_eq_true rfl) rfl rfl rfl ?_
  refine zx_putR (pre := zSK) (j := 0) (l' := [.inl (8, [some (some 57), none, some none, none, some none, some none, some none, none, none, some none, none, some none, some none, some none]), .inr (0, 154, fun _ => none)]) f_X8_7 cl_X8 rfl rfl rfl (fun a => ⟨rfl, rfl⟩) dX8_init_10 rfl rfl (Nat.le_of_ble_eq_true rfl) rfl rfl ?_
  refine zw_aload_n 0 dX8_init_13 rfl rfl rfl ?_
  refine zw_bipush (v := (20 : Int32)) dX8_init_14 (by decide) rfl ?_
  refine zx_newI (pre := zSK) (n := 20) (b := 58) (l' := [.inl (8, [some (some 57), none, some none, none, some none, some none, some none, none, none, some none, none, some none, some none, some none]), .inr (0, 154, fun _ => none), .inr (0, 20, fun _ => none)]) (ck' := 2) (cs' := 174) Z rfl rfl dX8_init_16 rfl (by decide) (Nat.le_of_ble_eq_true rfl) (Nat.le_of_ble_eq_true rfl) rfl rfl rfl ?_
  refine zx_putR (pre := zSK) (j := 0) (l' := [.inl (8, [some (some 57), none, some (some 58), none, some none, some none, some none, none, none, some none, none, some none, some none, some none]), .inr (0, 154, fun _ => none), .inr (0, 20, fun _ => none)]) f_X8_13 cl_X8 rfl rfl rfl (fun a => ⟨rfl, rfl⟩) dX8_init_18 rfl rfl (Nat.le_of_ble_eq_true rfl) rfl rfl ?_
  refine zw_aload_n 0 dX8_init_21 rfl rfl rfl ?_
  refine zw_sipush (v := (1218 : Int32)) dX8_init_22 (by decide) rfl ?_
  refine zx_newI (pre := zSK) (n := 1218) (b := 59) (l' := [.inl (8, [some (some 57), none, some (some 58), none, some none, some none, some none, none, none, some none, none, some none, some none, some none]), .inr (0, 154, fun _ => none), .inr (0, 20, fun _ => none), .inr (0, 1218, fun _ => none)]) (ck' := 3) (cs' := 1392) Z rfl rfl dX8_init_25 rfl (by decide) (Nat.le_of_ble_eq_true rfl) (Nat.le_of_ble_eq_true rfl) rfl rfl rfl ?_
  refine zx_putR (pre := zSK) (j := 0) (l' := [.inl (8, [some (some 57), none, some (some 58), none, some (some 59), some none, some none, none, none, some none, none, some none, some none, some none]), .inr (0, 154, fun _ => none), .inr (0, 20, fun _ => none), .inr (0, 1218, fun _ => none)]) f_X8_16 cl_X8 rfl rfl rfl (fun a => ⟨rfl, rfl⟩) dX8_init_27 rfl rfl (Nat.le_of_ble_eq_true rfl) rfl rfl ?_
  refine zw_aload_n 0 dX8_init_30 rfl rfl rfl ?_
  refine zw_sipush (v := (203 : Int32)) dX8_init_31 (by decide) rfl ?_
  refine zx_newI (pre := zSK) (n := 203) (b := 60) (l' := [.inl (8, [some (some 57), none, some (some 58), none, some (some 59), some none, some none, none, none, some none, none, some none, some none, some none]), .inr (0, 154, fun _ => none), .inr (0, 20, fun _ => none), .inr (0, 1218, fun _ => none), .inr (0, 203, fun _ => none)]) (ck' := 4) (cs' := 1595) Z rfl rfl dX8_init_34 rfl (by decide) (Nat.le_of_ble_eq_true rfl) (Nat.le_of_ble_eq_true rfl) rfl rfl rfl ?_
  refine zx_putR (pre := zSK) (j := 0) (l' := [.inl (8, [some (some 57), none, some (some 58), none, some (some 59), some (some 60), some none, none, none, some none, none, some none, some none, some none]), .inr (0, 154, fun _ => none), .inr (0, 20, fun _ => none), .inr (0, 1218, fun _ => none), .inr (0, 203, fun _ => none)]) f_X8_19 cl_X8 rfl rfl rfl (fun a => ⟨rfl, rfl⟩) dX8_init_36 rfl rfl (Nat.le_of_ble_eq_true rfl) rfl rfl ?_
  refine zw_aload_n 0 dX8_init_39 rfl rfl rfl ?_
  refine zw_sipush (v := (203 : Int32)) dX8_init_40 (by decide) rfl ?_
  refine zx_newI (pre := zSK) (n := 203) (b := 61) (l' := [.inl (8, [some (some 57), none, some (some 58), none, some (some 59), some (some 60), some none, none, none, some none, none, some none, some none, some none]), .inr (0, 154, fun _ => none), .inr (0, 20, fun _ => none), .inr (0, 1218, fun _ => none), .inr (0, 203, fun _ => none), .inr (0, 203, fun _ => none)]) (ck' := 5) (cs' := 1798) Z rfl rfl dX8_init_43 rfl (by decide) (Nat.le_of_ble_eq_true rfl) (Nat.le_of_ble_eq_true rfl) rfl rfl rfl ?_
  refine zx_putR (pre := zSK) (j := 0) (l' := [.inl (8, [some (some 57), none, some (some 58), none, some (some 59), some (some 60), some (some 61), none, none, some none, none, some none, some none, some none]), .inr (0, 154, fun _ => none), .inr (0, 20, fun _ => none), .inr (0, 1218, fun _ => none), .inr (0, 203, fun _ => none), .inr (0, 203, fun _ => none)]) f_X8_22 cl_X8 rfl rfl rfl (fun a => ⟨rfl, rfl⟩) dX8_init_45 rfl rfl (Nat.le_of_ble_eq_true rfl) rfl rfl ?_
  refine zw_aload_n 0 dX8_init_48 rfl rfl rfl ?_
  refine zw_bipush (v := (6 : Int32)) dX8_init_49 (by decide) rfl ?_
  refine zx_newI (pre := zSK) (n := 6) (b := 62) (l' := [.inl (8, [some (some 57), none, some (some 58), none, some (some 59), some (some 60), some (some 61), none, none, some none, none, some none, some none, some none]), .inr (0, 154, fun _ => none), .inr (0, 20, fun _ => none), .inr (0, 1218, fun _ => none), .inr (0, 203, fun _ => none), .inr (0, 203, fun _ => none), .inr (0, 6, fun _ => none)]) (ck' := 6) (cs' := 1804) Z rfl rfl dX8_init_51 rfl (by decide) (Nat.le_of_ble_eq_true rfl) (Nat.le_of_ble_eq_true rfl) rfl rfl rfl ?_
  refine zx_putR (pre := zSK) (j := 0) (l' := [.inl (8, [some (some 57), none, some (some 58), none, some (some 59), some (some 60), some (some 61), none, none, some (some 62), none, some none, some none, some none]), .inr (0, 154, fun _ => none), .inr (0, 20, fun _ => none), .inr (0, 1218, fun _ => none), .inr (0, 203, fun _ => none), .inr (0, 203, fun _ => none), .inr (0, 6, fun _ => none)]) f_X8_25 cl_X8 rfl rfl rfl (fun a => ⟨rfl, rfl⟩) dX8_init_53 rfl rfl (Nat.le_of_ble_eq_true rfl) rfl rfl ?_
  refine zw_aload_n 0 dX8_init_56 rfl rfl rfl ?_
  refine zw_sipush (v := (203 : Int32)) dX8_init_57 (by decide) rfl ?_
  refine zx_newL (pre := zSK) (n := 203) (b := 63) (l' := [.inl (8, [some (some 57), none, some (some 58), none, some (some 59), some (some 60), some (some 61), none, none, some (some 62), none, some none, some none, some none]), .inr (0, 154, fun _ => none), .inr (0, 20, fun _ => none), .inr (0, 1218, fun _ => none), .inr (0, 203, fun _ => none), .inr (0, 203, fun _ => none), .inr (0, 6, fun _ => none), .inr (2, 203, fun _ => none)]) (ck' := 7) (cs' := 2007) Z rfl rfl dX8_init_60 rfl (by decide) (Nat.le_of_ble_eq_true rfl) (Nat.le_of_ble_eq_true rfl) rfl rfl rfl ?_
  refine zx_putR (pre := zSK) (j := 0) (l' := [.inl (8, [some (some 57), none, some (some 58), none, some (some 59), some (some 60), some (some 61), none, none, some (some 62), none, some (some 63), some none, some none]), .inr (0, 154, fun _ => none), .inr (0, 20, fun _ => none), .inr (0, 1218, fun _ => none), .inr (0, 203, fun _ => none), .inr (0, 203, fun _ => none), .inr (0, 6, fun _ => none), .inr (2, 203, fun _ => none)]) f_X8_28 cl_X8 rfl rfl rfl (fun a => ⟨rfl, rfl⟩) dX8_init_62 rfl rfl (Nat.le_of_ble_eq_true rfl) rfl rfl ?_
  refine zw_aload_n 0 dX8_init_65 rfl rfl rfl ?_
  refine zw_sipush (v := (203 : Int32)) dX8_init_66 (by decide) rfl ?_
  refine zx_newL (pre := zSK) (n := 203) (b := 64) (l' := [.inl (8, [some (some 57), none, some (some 58), none, some (some 59), some (some 60), some (some 61), none, none, some (some 62), none, some (some 63), some none, some none]), .inr (0, 154, fun _ => none), .inr (0, 20, fun _ => none), .inr (0, 1218, fun _ => none), .inr (0, 203, fun _ => none), .inr (0, 203, fun _ => none), .inr (0, 6, fun _ => none), .inr (2, 203, fun _ => none), .inr (2, 203, fun _ => none)]) (ck' := 8) (cs' := 2210) Z rfl rfl dX8_init_69 rfl (by decide) (Nat.le_of_ble_eq_true rfl) (Nat.le_of_ble_eq_true rfl) rfl rfl rfl ?_
  refine zx_putR (pre := zSK) (j := 0) (l' := [.inl (8, [some (some 57), none, some (some 58), none, some (some 59), some (some 60), some (some 61), none, none, some (some 62), none, some (some 63), some (some 64), some none]), .inr (0, 154, fun _ => none), .inr (0, 20, fun _ => none), .inr (0, 1218, fun _ => none), .inr (0, 203, fun _ => none), .inr (0, 203, fun _ => none), .inr (0, 6, fun _ => none), .inr (2, 203, fun _ => none), .inr (2, 203, fun _ => none)]) f_X8_32 cl_X8 rfl rfl rfl (fun a => ⟨rfl, rfl⟩) dX8_init_71 rfl rfl (Nat.le_of_ble_eq_true rfl) rfl rfl ?_
  refine zw_aload_n 0 dX8_init_74 rfl rfl rfl ?_
  refine zw_bipush (v := (64 : Int32)) dX8_init_75 (by decide) rfl ?_
  refine zx_newI (pre := zSK) (n := 64) (b := 65) (l' := [.inl (8, [some (some 57), none, some (some 58), none, some (some 59), some (some 60), some (some 61), none, none, some (some 62), none, some (some 63), some (some 64), some none]), .inr (0, 154, fun _ => none), .inr (0, 20, fun _ => none), .inr (0, 1218, fun _ => none), .inr (0, 203, fun _ => none), .inr (0, 203, fun _ => none), .inr (0, 6, fun _ => none), .inr (2, 203, fun _ => none), .inr (2, 203, fun _ => none), .inr (0, 64, fun _ => none)]) (ck' := 9) (cs' := 2274) Z rfl rfl dX8_init_77 rfl (by decide) (Nat.le_of_ble_eq_true rfl) (Nat.le_of_ble_eq_true rfl) rfl rfl rfl ?_
  refine zx_putR (pre := zSK) (j := 0) (l' := [.inl (8, [some (some 57), none, some (some 58), none, some (some 59), some (some 60), some (some 61), none, none, some (some 62), none, some (some 63), some (some 64), some (some 65)]), .inr (0, 154, fun _ => none), .inr (0, 20, fun _ => none), .inr (0, 1218, fun _ => none), .inr (0, 203, fun _ => none), .inr (0, 203, fun _ => none), .inr (0, 6, fun _ => none), .inr (2, 203, fun _ => none), .inr (2, 203, fun _ => none), .inr (0, 64, fun _ => none)]) f_X8_35 cl_X8 rfl rfl rfl (fun a => ⟨rfl, rfl⟩) dX8_init_79 rfl rfl (Nat.le_of_ble_eq_true rfl) rfl rfl ?_
  refine zw_aload_n 0 dX8_init_82 rfl rfl rfl ?_
  refine zw_iconst (v := (5 : Int32)) dX8_init_83 (by decide) rfl ?_
  refine zw.shp (sh' := zSH) rfl ?_
  refine zw_callV (n := 1) (As := [.int (5 : Int32)]) (rest := []) (c_X8_starts (n := 5) (by decide) (by decide)) my_X8_starts rfl rfl k_X8_38 i_X8_starts s_X8_starts zs_56 rfl dX8_init_84 (by decide) (Nat.le_of_ble_eq_true rfl) (Nat.le_of_ble_eq_true rfl) (Nat.le_of_ble_eq_true rfl) rfl (fun r s1 k1 hq => ?_)
  obtain ⟨rfl, rfl, r1⟩ := hq
  refine zw.st (st' := []) rfl ?_
  exact zw_return dX8_init_87 rfl (Nat.le_refl _) (Nat.le_refl _) ⟨rfl, rfl, r1⟩
