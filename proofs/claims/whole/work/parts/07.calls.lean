def zw_wl (M : zw_M) : List Cond := Cond.code M.1 M.2.1 M.2.2.1 M.2.2.2.1 :: zw_ts
def zw_B (g : zw_G) (sh : zw_S) (h : zw_H) (U : State) : Prop := zw_W g sh h U.heap ∧ zw_K g U ∧ zw_T g U U.heap ∧ g.1 ≤ U.heap.size
def zw_rm (d mc ms : Nat) : Room := { frames := d, cells := mc, slots := ms, locals := 30 * d }
/-- a method's contract: at the arguments as, in the world (sh, h), it returns, and Q holds of its answer and of the world behind it -/
def zc (d mc ms : Nat) (M : zw_M) (as : List Value) (sh : zw_S) (h : zw_H) (Q : Option Value → zw_S → zw_H → Prop) : Prop :=
  ∀ (l : Launch) (g : zw_G), Met l M.1 (zw_wl M) (zw_rm d mc ms) (va_Pc (as.map (zw_tr g)) (zw_B g sh h))
    (fun _ s0 oc t => (∃ r sh' h', oc = .returned (r.map (zw_tr g)) ∧ Q r sh' h' ∧ zw_W g sh' h' t.heap) ∧ va_F (fun q => g.1 ≤ q) s0 t) mc ms (fun q => g.1 ≤ q)
theorem zw_K.moved {g : zw_G} {u U : State} (hvm : u.vm.Alike U.vm) (hw : ∀ w ∈ zw_nest, va_Nw w U) (h : zw_K g u) : zw_K g U := ⟨va_K.moved hvm h.1, hw, va_AO.moved hvm h.2.2⟩
theorem zw_nest_warm {s U : State} (hW : s.WarmedH U.vm) (h : ∀ w ∈ zw_nest, va_Nw w s) : ∀ w ∈ zw_nest, va_Nw w U := by
  intro w hw
  have h1 := h w hw
  have h2 := (List.mem_filter.mp hw).2
  cases w with
  | fieldLinkNest => exact va_Nw.warmF hW h1
  | methodLinkNest => exact va_Nw.warmM hW h1
  | _ => simp at h2
theorem zw_nest_same {s U : State} (hv : s.vm = U.vm) (h : ∀ w ∈ zw_nest, va_Nw w s) : ∀ w ∈ zw_nest, va_Nw w U := by
  intro w hw
  have h1 := h w hw
  have h2 := (List.mem_filter.mp hw).2
  cases w with
  | fieldLinkNest => exact va_Nw.same rfl hv h1
  | methodLinkNest => exact va_Nw.same rfl hv h1
  | _ => simp at h2
theorem zw_T.moved {g : zw_G} {u U : State} {H H1 : Heap} (hvm : u.vm.Alike U.vm) (hq : ∀ a : Nat, a < H.size → ¬ g.1 ≤ a → H1[a]? = H[a]?) (h : zw_T g u H) : zw_T g U H1 :=
  ⟨(h.1.moved hvm).kept hq, (h.2.1.moved hvm).kept hq, (h.2.2.1.moved hvm).kept hq, (h.2.2.2.moved hvm).kept hq⟩
theorem zw_B.blind {g : zw_G} {sh : zw_S} {h : zw_H} {as : List Value} : FrameBlind (va_Pc (as.map (zw_tr g)) (zw_B g sh h)) := by
  intro a U f mk hp
  obtain ⟨h1, h2, h3, h4, h5⟩ := hp
  exact ⟨h1, h2, ⟨va_K.moved (Vm.Alike.refl U.vm) h3.1, zw_nest_same (rfl : U.vm = (U.calling f mk a).vm) h3.2.1, va_AO.moved (Vm.Alike.refl U.vm) h3.2.2⟩, ⟨h4.1.moved (Vm.Alike.refl U.vm), h4.2.1.moved (Vm.Alike.refl U.vm), h4.2.2.1.moved (Vm.Alike.refl U.vm), h4.2.2.2.moved (Vm.Alike.refl U.vm)⟩, h5⟩
theorem zw_ret_i {p : Program} {l : Launch} {e : Env} {R : Room} {s : State} {m : MethodId} {args : Array Value} {below : List Frame} {meth : Method} {c : Code} {H : Heap} {locs : List Loc} {cells slots : Nat} {M : zw_M} {g : zw_G} {pc : Nat} {ls : Array Slot} {r : Option Value} {Qc : Array Value → State → Outcome → State → Prop} {free : Addr → Prop} (hexec : p.tables.exec = Jvm.exec) (hb : c.code = M.2.1) (hr : meth.sig.returnType = M.2.2.2.1) (hlocks : meth.locks = false) (ht : zw_rt M pc r) (hq : ∀ t : State, t.heap = H → s.WarmedH t.vm → Qc args s (.returned (r.map (zw_tr g))) t) (hf : ∀ q ∈ locs, free q.base) :
    W p l e R s m args below meth c H locs cells slots (MQ below Qc args s cells slots free) (F0 m pc ls (r.toList.map (zw_tr g))) := by
  cases r with
  | none => exact W.vret hexec hb (hr.trans ht.2) hq hf ht.1 hlocks
  | some v =>
    cases v with
    | int v =>
      obtain ⟨h1, ty, h2, h3⟩ := ht
      exact W.zret (ty := ty) hexec hb (hr.trans h2) h3 hq hf h1 hlocks
    | long v => exact W.lret hexec hb (hr.trans ht.2) hq hf ht.1 hlocks
    | _ => exact ht.elim
theorem zc_of {d mc ms : Nat} {M : zw_M} {as : List Value} {sh : zw_S} {h : zw_H} {Q : Option Value → zw_S → zw_H → Prop} (hX : M.2.2.2.2.1 = 0) (hp : plainName M.1.cls = true) (hl : ∀ g : zw_G, (lg_sl (as.map (zw_tr g))).length ≤ M.2.2.1) (k : zw M d mc ms Q 0 (lv_args 0 as) [] sh h 0 0) : zc d mc ms M as sh h Q := by
  intro l g
  refine Met.ofW (cc := M.2.1) (maxL := M.2.2.1) (ret := M.2.2.2.1) hp rfl ?_
  intro p e s m args below meth c s₁ B hml hv
  obtain ⟨rfl, hW, hK, hT, hz⟩ := hv
  have hts := atoms_spec (ws := zw_wl M) B.pre
  have hl2 := lv_entry (as.map (zw_tr g)) (hl g)
  rw [lg_entry_eq]
  generalize (lg_sl (as.map (zw_tr g)) ++ List.replicate (M.2.2.1 - (lg_sl (as.map (zw_tr g))).length) Slot.unset).toArray = ls at hl2 ⊢
  have he : ∀ (l : List Value) (i : Nat), lv_args i (l.map (zw_tr g)) = zw_lv g (lv_args i l) := by
    intro l
    induction l with
    | nil => intro i; rfl
    | cons v t ih =>
      intro i
      show (i, zw_tr g v) :: lv_args (if (zw_tr g v).category = 2 then i + 2 else i + 1) (t.map (zw_tr g)) = (i, zw_tr g v) :: zw_lv g (lv_args (if v.category = 2 then i + 2 else i + 1) t)
      rw [zw_tr_cat, ih]
  rw [he] at hl2
  refine k p l e _ s m _ below meth c g s.heap [] ls _ ⟨B.exec, B.bytes, B.returns, hml, findClass_of_methodNamed B.named, fun w hw => hts w (List.mem_cons_of_mem _ hw), B.notSynchronized, (name_of_methodNamed B.named B.method).1, hK, hT, ⟨hz, Or.inl hX⟩, Nat.le_refl d, Nat.le_refl (30 * d), Nat.le_refl mc, Nat.le_refl ms⟩ hW va_S.rf hl2 ?_
  intro r sh' h' H' locs' ls' pcr hq hW' hS' hrt
  exact zw_ret_i (g := g) B.exec B.bytes B.returns B.notSynchronized hrt (fun t ht hWm => ⟨⟨r, sh', h', rfl, hq, by rw [ht]; exact hW'⟩, hS'.F ht⟩) hS'.2.2
/-- behind a call -/
theorem zw_back {p : Program} {l : Launch} {e : Env} {R : Room} {s : State} {m : MethodId} {args : Array Value} {below : List Frame} {meth : Method} {c : Code} {H : Heap} {locs : List Loc} {ck cs mc' ms' : Nat} {g : zw_G} {pc : Nat} {ls : Array Slot} {rest st0 : List Value} {Q' : Option Value → zw_S → zw_H → Prop} {Z : State → Prop} (hS : va_S (fun q => g.1 ≤ q) s.heap H locs)
    (hr : va_Run p l e R s m args below meth c H locs ck cs mc' ms' (F0 m pc ls st0) (rest.map (zw_tr g)) (fun s0 oc t => (∃ r sh' h', oc = .returned (r.map (zw_tr g)) ∧ Q' r sh' h' ∧ zw_W g sh' h' t.heap) ∧ va_F (fun q => g.1 ≤ q) s0 t) (fun q => g.1 ≤ q))
    (kk : ∀ (r : Option Value) (sh' : zw_S) (h' : zw_H) (H1 : Heap) (locs1 : List Loc), Q' r sh' h' → zw_W g sh' h' H1 → va_S (fun q => g.1 ≤ q) s.heap H1 locs1 → W p l e R s m args below meth c H1 locs1 (ck + mc') (cs + ms') Z (F0 m (pc + 3) ls ((r.toList ++ rest).map (zw_tr g)))) : W p l e R s m args below meth c H locs ck cs Z (F0 m pc ls st0) := by
  intro T hT X
  obtain ⟨v, st₀, t, T', L, h0, X', hL, e1, e2, ⟨⟨r, sh', h', hv, hq, hW'⟩, hz, hk⟩, stp⟩ := hr T hT X
  cases hv
  rw [h0] at hz hk
  obtain ⟨t2, a1, b1⟩ := kk r sh' h' T'.heap (locs ++ L) hq (by rw [e1]; exact hW')
    ⟨Nat.le_trans hS.1 (by rw [e1]; exact hz), fun q h1 h2 => by rw [e1, hk q (Nat.lt_of_lt_of_le h1 hS.1) h2]; exact hS.2.1 q h1 h2, fun q hq => by
      rcases List.mem_append.mp hq with h | h
      · exact hS.2.2 q h
      · exact hL q h⟩ T' rfl X'
  refine ⟨t2, stp t2 ?_, b1⟩
  have e3 : (r.toList ++ rest).map (zw_tr g) = (r.map (zw_tr g)).toList ++ rest.map (zw_tr g) := by cases r <;> rfl
  rw [e3] at a1
  exact a1
abbrev zw_y (Y : MethodName) (n : Nat) : Prop := Y.cls ≠ "java/lang/invoke/MethodHandle" ∧ Y.cls ≠ "java/lang/invoke/VarHandle" ∧ (parseMethodDescriptor Y.desc).map (fun d => d.parameters.length) = some n
/-- the callee's own facts: its code and its class are among the words, its room -/
def zw_my (M' : zw_M) (n : Nat) : Prop := Cond.code M'.1 M'.2.1 M'.2.2.1 M'.2.2.2.1 ∈ zw_ts ∧ Cond.initialized M'.1.cls ∈ zw_ts ∧ M'.2.2.1 ≤ 11 ∧ zw_y M'.1 n
theorem zw_good {M' : zw_M} (h : Cond.code M'.1 M'.2.1 M'.2.2.1 M'.2.2.2.1 ∈ zw_ts) : GoodIn zw_ts (zw_wl M') := by
  intro w hw
  have hm : w ∈ zw_ts := by
    rcases List.mem_cons.mp hw with rfl | hw
    · exact h
    · exact hw
  exact ⟨hm, good_of_word (zw_ts_good w hm)⟩
section ZC
variable {M M' : zw_M} {d d' mc ms mc' ms' : Nat} {Q Q' : Option Value → zw_S → zw_H → Prop} {pc np : Nat} {lv : List (Nat × Value)} {st : List Value} {sh : zw_S} {h : zw_H} {ck cs : Nat}
theorem zw_pre {p : Program} {R : Room} {s : State} {m : MethodId} {args : Array Value} {meth : Method} {c : Code} {g : zw_G} {H : Heap} {locs : List Loc} {as : List Value} (C0 : zw_C M d mc ms g p R s m args meth c) (hW : zw_W g sh h H) (hS : va_S (fun q => g.1 ≤ q) s.heap H locs) : ∀ U : State, U.heap = H → s.WarmedH U.vm → va_Pc (as.map (zw_tr g)) (zw_B g sh h) (as.map (zw_tr g)).toArray U := by
  intro U hU hWm
  have hK := C0.2.2.2.2.2.2.2.2.1
  have hT := C0.2.2.2.2.2.2.2.2.2.1
  have hz := C0.2.2.2.2.2.2.2.2.2.2.1.1
  exact ⟨rfl, by rw [hU]; exact hW, zw_K.moved hWm.alike (zw_nest_warm hWm hK.2.1) hK, by rw [hU]; exact zw_T.moved hWm.alike hS.2.1 hT, by rw [hU]; exact Nat.le_trans hz hS.1⟩
theorem zw_callV {i n x ci : Nat} {As rest : List Value} {fs : List (Option (Option Nat))} {T : u_T} {N : Nat} (ct : zc d' mc' ms' M' (.ref x :: As) sh h Q') (hmy : zw_my M' n) (hAs : As.length = n) (hst : st = As.reverse ++ .ref x :: rest) (hwl : Cond.methodLink M.1.cls i M'.1 ∈ zw_ts) (hwi : Cond.instanceMethod M'.1 ∈ zw_ts) (hws : Cond.selects M'.1.cls M'.1 M'.1 ∈ zw_ts) (hx : sh[x]? = some (.inl (ci, fs))) (hc : vwCl[ci]? = some (M'.1.cls, T, N))
    (hd : decode M.2.1 pc = .ok (.invokevirtual i, 3)) (hdep : d' + 1 ≤ d) (hrest : (rest.map fun v => v.category).sum ≤ 8) (hk : ck + mc' ≤ mc) (hs : cs + ms' ≤ ms) (hn : pc + 3 = np) (kk : ∀ r sh' h', Q' r sh' h' → zw M d mc ms Q np lv (r.toList ++ rest) sh' h' (ck + mc') (cs + ms')) : zw M d mc ms Q pc lv st sh h ck cs := by
  subst hn hst
  intro p l e R s m args below meth c g H locs ls Z C0 hW hS hl hZ
  have hts := C0.2.2.2.2.2.1
  have hK := C0.2.2.2.2.2.2.2.2.1
  have cb := callB_of (R := R) (own := M.1.cls) (index := i) (rm := zw_rm d' mc' ms') (mc := mc') (ms := ms') n hts (zw_good hmy.1) rfl rfl rfl (hts _ hmy.2.1) (hts _ hwl) hmy.2.2.2 ⟨Nat.le_trans hdep C0.2.2.2.2.2.2.2.2.2.2.2.1, by have := C0.2.2.2.2.2.2.2.2.2.2.2.2.1; have := hmy.2.2.1; show 8 + (_ + 11) + 30 * d' ≤ R.locals; omega⟩
  refine zw_back (rest := rest) hS (va_runV (g := F0 m pc ls _) (b := g.1 + x) (As := As.map (zw_tr g)) ⟨C0.1, C0.2.1, C0.2.2.2.1, C0.2.2.2.2.1, hts⟩ (ct l g) ⟨cb, hts _ hwi, hts _ hws⟩ ⟨zw_B.blind, va_recv hK.1 hW.2 hc (zw_ws_at hx), zw_pre C0 hW hS⟩ rfl (by rw [List.length_map]; exact hAs) hl.1 (by simp [zw_tr]) (lv_room (by rw [zw_tr_sum]; exact hrest)) hd ⟨Nat.le_trans hk C0.2.2.2.2.2.2.2.2.2.2.2.2.2.1, Nat.le_trans hs C0.2.2.2.2.2.2.2.2.2.2.2.2.2.2⟩) ?_
  intro r sh' h' H1 locs1 hq hW1 hS1
  exact kk r sh' h' hq p l e R s m args below meth c g H1 locs1 ls Z C0 hW1 hS1 hl hZ
theorem zw_callS {i n : Nat} {As rest : List Value} (ct : zc d' mc' ms' M' As sh h Q') (hmy : zw_my M' n) (hAs : As.length = n) (hst : st = As.reverse ++ rest) (hwl : Cond.methodLink M.1.cls i M'.1 ∈ zw_ts) (hwi : Cond.static M'.1 ∈ zw_ts)
    (hd : decode M.2.1 pc = .ok (.invokestatic i, 3)) (hdep : d' + 1 ≤ d) (hrest : (rest.map fun v => v.category).sum ≤ 8) (hk : ck + mc' ≤ mc) (hs : cs + ms' ≤ ms) (hn : pc + 3 = np) (kk : ∀ r sh' h', Q' r sh' h' → zw M d mc ms Q np lv (r.toList ++ rest) sh' h' (ck + mc') (cs + ms')) : zw M d mc ms Q pc lv st sh h ck cs := by
  subst hn hst
  intro p l e R s m args below meth c g H locs ls Z C0 hW hS hl hZ
  have hts := C0.2.2.2.2.2.1
  have cb := callB_of (R := R) (own := M.1.cls) (index := i) (rm := zw_rm d' mc' ms') (mc := mc') (ms := ms') n hts (zw_good hmy.1) rfl rfl rfl (hts _ hmy.2.1) (hts _ hwl) hmy.2.2.2 ⟨Nat.le_trans hdep C0.2.2.2.2.2.2.2.2.2.2.2.1, by have := C0.2.2.2.2.2.2.2.2.2.2.2.2.1; have := hmy.2.2.1; show 8 + (_ + 11) + 30 * d' ≤ R.locals; omega⟩
  refine zw_back (rest := rest) hS (va_runS (g := F0 m pc ls _) (As := As.map (zw_tr g)) ⟨C0.1, C0.2.1, C0.2.2.2.1, C0.2.2.2.2.1, hts⟩ (ct l g) ⟨cb, hts _ hwi⟩ ⟨zw_B.blind, zw_pre C0 hW hS⟩ rfl (by rw [List.length_map]; exact hAs) hl.1 (by simp) (lv_room (by rw [zw_tr_sum]; exact hrest)) hd ⟨Nat.le_trans hk C0.2.2.2.2.2.2.2.2.2.2.2.2.2.1, Nat.le_trans hs C0.2.2.2.2.2.2.2.2.2.2.2.2.2.2⟩) ?_
  intro r sh' h' H1 locs1 hq hW1 hS1
  exact kk r sh' h' hq p l e R s m args below meth c g H1 locs1 ls Z C0 hW1 hS1 hl hZ
theorem zw_callSN {i n : Nat} {As rest : List Value} {host : String} (ct : zc d' mc' ms' M' As sh h Q') (hmy : zw_my M' n) (hAs : As.length = n) (hst : st = As.reverse ++ rest) (hwl : Cond.methodLinkNest M.1.cls i M'.1 host ∈ zw_nest) (hwi : Cond.static M'.1 ∈ zw_ts)
    (hd : decode M.2.1 pc = .ok (.invokestatic i, 3)) (hdep : d' + 1 ≤ d) (hrest : (rest.map fun v => v.category).sum ≤ 8) (hk : ck + mc' ≤ mc) (hs : cs + ms' ≤ ms) (hn : pc + 3 = np) (kk : ∀ r sh' h', Q' r sh' h' → zw M d mc ms Q np lv (r.toList ++ rest) sh' h' (ck + mc') (cs + ms')) : zw M d mc ms Q pc lv st sh h ck cs := by
  subst hn hst
  intro p l e R s m args below meth c g H locs ls Z C0 hW hS hl hZ
  have hts := C0.2.2.2.2.2.1
  have hK := C0.2.2.2.2.2.2.2.2.1
  have cb := va_cnB (R := R) (own := M.1.cls) (host := host) (index := i) (rm := zw_rm d' mc' ms') (mc := mc') (ms := ms') n hts (zw_good hmy.1) rfl rfl rfl (hK.2.1 _ hwl) (hts _ hmy.2.1) hmy.2.2.2 ⟨Nat.le_trans hdep C0.2.2.2.2.2.2.2.2.2.2.2.1, by have := C0.2.2.2.2.2.2.2.2.2.2.2.2.1; have := hmy.2.2.1; show 8 + (_ + 11) + 30 * d' ≤ R.locals; omega⟩
  refine zw_back (rest := rest) hS (va_runSN (g := F0 m pc ls _) (As := As.map (zw_tr g)) ⟨C0.1, C0.2.1, C0.2.2.2.1, C0.2.2.2.2.1, hts⟩ (ct l g) ⟨cb, hts _ hwi, trivial⟩ ⟨zw_B.blind, zw_pre C0 hW hS⟩ rfl (by rw [List.length_map]; exact hAs) hl.1 (by simp) (lv_room (by rw [zw_tr_sum]; exact hrest)) hd ⟨Nat.le_trans hk C0.2.2.2.2.2.2.2.2.2.2.2.2.2.1, Nat.le_trans hs C0.2.2.2.2.2.2.2.2.2.2.2.2.2.2⟩) ?_
  intro r sh' h' H1 locs1 hq hW1 hS1
  exact kk r sh' h' hq p l e R s m args below meth c g H1 locs1 ls Z C0 hW1 hS1 hl hZ
theorem zw_callI {i n x : Nat} {As rest : List Value} (ct : zc d' mc' ms' M' (.ref x :: As) sh h Q') (hmy : zw_my M' n) (hret : M'.2.2.2.1 = none) (hname : M'.1.name = "<init>") (hAs : As.length = n) (hst : st = As.reverse ++ .ref x :: rest) (hwl : Cond.methodLink M.1.cls i M'.1 ∈ zw_ts) (hwi : Cond.instanceMethod M'.1 ∈ zw_ts)
    (hd : decode M.2.1 pc = .ok (.invokespecial i, 3)) (hdep : d' + 1 ≤ d) (hrest : (rest.map fun v => v.category).sum ≤ 8) (hk : ck + mc' ≤ mc) (hs : cs + ms' ≤ ms) (hn : pc + 3 = np) (kk : ∀ r sh' h', Q' r sh' h' → zw M d mc ms Q np lv (r.toList ++ rest) sh' h' (ck + mc') (cs + ms')) : zw M d mc ms Q pc lv st sh h ck cs := by
  subst hn hst
  intro p l e R s m args below meth c g H locs ls Z C0 hW hS hl hZ
  have hts := C0.2.2.2.2.2.1
  have cb := callB_of (R := R) (own := M.1.cls) (index := i) (rm := zw_rm d' mc' ms') (mc := mc') (ms := ms') n hts (zw_good hmy.1) rfl rfl rfl (hts _ hmy.2.1) (hts _ hwl) hmy.2.2.2 ⟨Nat.le_trans hdep C0.2.2.2.2.2.2.2.2.2.2.2.1, by have := C0.2.2.2.2.2.2.2.2.2.2.2.2.1; have := hmy.2.2.1; show 8 + (_ + 11) + 30 * d' ≤ R.locals; omega⟩
  rw [hret] at cb
  refine zw_back (rest := rest) hS (va_runI (g := F0 m pc ls _) (b := g.1 + x) (As := As.map (zw_tr g)) ⟨C0.1, C0.2.1, C0.2.2.2.1, C0.2.2.2.2.1, hts⟩ (ct l g) ⟨cb, hname, hts _ hwi⟩ ⟨zw_B.blind, zw_pre (as := .ref x :: As) C0 hW hS⟩ rfl (by rw [List.length_map]; exact hAs) hl.1 (by simp [zw_tr]) (lv_room (by rw [zw_tr_sum]; exact hrest)) hd ⟨Nat.le_trans hk C0.2.2.2.2.2.2.2.2.2.2.2.2.2.1, Nat.le_trans hs C0.2.2.2.2.2.2.2.2.2.2.2.2.2.2⟩) ?_
  intro r sh' h' H1 locs1 hq hW1 hS1
  exact kk r sh' h' hq p l e R s m args below meth c g H1 locs1 ls Z C0 hW1 hS1 hl hZ
theorem zw_callIN {i n x : Nat} {As rest : List Value} {host : String} (ct : zc d' mc' ms' M' (.ref x :: As) sh h Q') (hmy : zw_my M' n) (hret : M'.2.2.2.1 = none) (hname : M'.1.name = "<init>") (hAs : As.length = n) (hst : st = As.reverse ++ .ref x :: rest) (hwl : Cond.methodLinkNest M.1.cls i M'.1 host ∈ zw_nest) (hwi : Cond.instanceMethod M'.1 ∈ zw_ts)
    (hd : decode M.2.1 pc = .ok (.invokespecial i, 3)) (hdep : d' + 1 ≤ d) (hrest : (rest.map fun v => v.category).sum ≤ 8) (hk : ck + mc' ≤ mc) (hs : cs + ms' ≤ ms) (hn : pc + 3 = np) (kk : ∀ r sh' h', Q' r sh' h' → zw M d mc ms Q np lv (r.toList ++ rest) sh' h' (ck + mc') (cs + ms')) : zw M d mc ms Q pc lv st sh h ck cs := by
  subst hn hst
  intro p l e R s m args below meth c g H locs ls Z C0 hW hS hl hZ
  have hts := C0.2.2.2.2.2.1
  have hK := C0.2.2.2.2.2.2.2.2.1
  have cb := va_cnB (R := R) (own := M.1.cls) (host := host) (index := i) (rm := zw_rm d' mc' ms') (mc := mc') (ms := ms') n hts (zw_good hmy.1) rfl rfl rfl (hK.2.1 _ hwl) (hts _ hmy.2.1) hmy.2.2.2 ⟨Nat.le_trans hdep C0.2.2.2.2.2.2.2.2.2.2.2.1, by have := C0.2.2.2.2.2.2.2.2.2.2.2.2.1; have := hmy.2.2.1; show 8 + (_ + 11) + 30 * d' ≤ R.locals; omega⟩
  rw [hret] at cb
  refine zw_back (rest := rest) hS (va_runIN (g := F0 m pc ls _) (b := g.1 + x) (As := As.map (zw_tr g)) ⟨C0.1, C0.2.1, C0.2.2.2.1, C0.2.2.2.2.1, hts⟩ (ct l g) ⟨cb, hname, hts _ hwi⟩ ⟨zw_B.blind, zw_pre (as := .ref x :: As) C0 hW hS⟩ rfl (by rw [List.length_map]; exact hAs) hl.1 (by simp [zw_tr]) (lv_room (by rw [zw_tr_sum]; exact hrest)) hd ⟨Nat.le_trans hk C0.2.2.2.2.2.2.2.2.2.2.2.2.2.1, Nat.le_trans hs C0.2.2.2.2.2.2.2.2.2.2.2.2.2.2⟩) ?_
  intro r sh' h' H1 locs1 hq hW1 hS1
  exact kk r sh' h' hq p l e R s m args below meth c g H1 locs1 ls Z C0 hW1 hS1 hl hZ
end ZC
def zw_qI (q : Int32 → zw_H → Prop) (sh : zw_S) : Option Value → zw_S → zw_H → Prop := fun r s' h' => ∃ x, r = some (.int x) ∧ s' = sh ∧ q x h'
def zw_qL (q : Int64 → zw_H → Prop) (sh : zw_S) : Option Value → zw_S → zw_H → Prop := fun r s' h' => ∃ x, r = some (.long x) ∧ s' = sh ∧ q x h'
def zw_qV (q : zw_H → Prop) (sh : zw_S) : Option Value → zw_S → zw_H → Prop := fun r s' h' => r = none ∧ s' = sh ∧ q h'
theorem zw_qI.mk {q : Int32 → zw_H → Prop} {sh : zw_S} {x : Int32} {h : zw_H} (k : q x h) : zw_qI q sh (some (.int x)) sh h := ⟨x, rfl, rfl, k⟩
theorem zw_qL.mk {q : Int64 → zw_H → Prop} {sh : zw_S} {x : Int64} {h : zw_H} (k : q x h) : zw_qL q sh (some (.long x)) sh h := ⟨x, rfl, rfl, k⟩
theorem zw_qV.mk {q : zw_H → Prop} {sh : zw_S} {h : zw_H} (k : q h) : zw_qV q sh none sh h := ⟨rfl, rfl, k⟩
