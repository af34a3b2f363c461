def zw_fld (own : String) (i ci k : Nat) (C : String) (T : u_T) (N : Nat) : Prop := vwCl[ci]? = some (C, T, N) ∧ (∀ w ∈ u_ws C T N, w ∈ zw_ts) ∧ k < N ∧ (T k).1 = C ∧ Cond.fieldLink own i C (T k).2.1 (T k).2.2.1 ∈ zw_ts
def zw_cls (C : String) (T : u_T) (N : Nat) (ty : Nat → FieldType) : Prop := (∀ k, k < N → parseFieldDescriptor (T k).2.2.1 = some (ty k)) ∧ (∀ a, a < N → ∀ b, b < N → a ≠ b → (T a).2.1 ≠ (T b).2.1)
theorem zw_set_self {sh : zw_S} {k : Nat} {e : zw_E} (hk : sh[k]? = some e) : sh = sh.set k e := by
  apply List.ext_getElem?
  intro j
  by_cases hj : j = k
  · subst hj
    rw [List.getElem?_set_self (List.getElem?_eq_some_iff.mp hk).1, hk]
  · rw [List.getElem?_set_ne (Ne.symm hj)]
def zw_z (h : zw_H) (k : Nat) : zw_H := (fun a b => if a = k then 0 else h.1 a b, fun a b => if a = k then 0 else h.2 a b)
theorem zw_cell_z (g : zw_G) (h : zw_H) (k : Nat) (a : Nat) (f : zw_E) (ha : a ≠ k) : zw_cell g (zw_z h k) a f = zw_cell g h a f := by
  have e : (zw_z h k).1 a = h.1 a := by funext b; simp [zw_z, ha]
  have e2 : (zw_z h k).2 a = h.2 a := by funext b; simp [zw_z, ha]
  unfold zw_cell
  rcases f with f | ⟨n, f⟩
  · simp only [e]
  · split <;> simp_all
theorem zw_put {g : zw_G} {h : zw_H} {q k ci : Nat} {fs : List (Option (Option Nat))} {x : Int32} (hs : fs[k]? = some none) : zw_cell g (zw_sI h q k x) q (.inl (ci, fs)) = .inr (ci, (fs.mapIdx (fun j y => zw_sl g y (h.1 q j))).set k (.int x)) := by
  show Sum.inr (ci, fs.mapIdx (fun j y => zw_sl g y ((zw_sI h q k x).1 q j))) = _
  congr 2
  apply List.ext_getElem?
  intro j
  have hl := (List.getElem?_eq_some_iff.mp hs).1
  by_cases hj : j = k
  · subst hj
    rw [List.getElem?_set_self (by simpa using hl), List.getElem?_mapIdx, hs, zw_sI_s]
    rfl
  · rw [List.getElem?_set_ne (Ne.symm hj), List.getElem?_mapIdx, List.getElem?_mapIdx, zw_sI_n (Or.inr hj)]
theorem zw_putR' {g : zw_G} {h : zw_H} {q k ci r : Nat} {fs : List (Option (Option Nat))} (hs : k < fs.length) : zw_cell g h q (.inl (ci, fs.set k (some (some r)))) = .inr (ci, (fs.mapIdx (fun j y => zw_sl g y (h.1 q j))).set k (.ref (g.1 + r))) := by
  show Sum.inr (ci, (fs.set k (some (some r))).mapIdx (fun j y => zw_sl g y (h.1 q j))) = _
  congr 2
  apply List.ext_getElem?
  intro j
  by_cases hj : j = k
  · subst hj
    rw [List.getElem?_set_self (by simpa using hs), List.getElem?_mapIdx, List.getElem?_set_self hs]
    rfl
  · rw [List.getElem?_set_ne (Ne.symm hj), List.getElem?_mapIdx, List.getElem?_mapIdx, List.getElem?_set_ne (Ne.symm hj)]
theorem zw_upd {h : zw_H} {q j : Nat} {x : Int32} : upd (h.1 q) j x = (zw_sI h q j x).1 q := by
  funext b
  simp [upd, zw_sI]
theorem zw_updL {h : zw_H} {q j : Nat} {x : Int64} : vp_updL (h.2 q) j x = (zw_sL h q j x).2 q := by
  funext b
  simp [vp_updL, zw_sL]
section ZH
variable {M : zw_M} {d mc ms : Nat} {Q : Option Value → zw_S → zw_H → Prop} {pc np : Nat} {lv : List (Nat × Value)} {st : List Value} {sh : zw_S} {h : zw_H} {ck cs : Nat}
theorem zw_get {i ci k q N : Nat} {C : String} {T : u_T} {fs : List (Option (Option Nat))} {y : Option (Option Nat)} {v : Value} (hf : zw_fld M.1.cls i ci k C T N) (hd : decode M.2.1 pc = .ok (.getfield i, 3)) (hq : sh[q]? = some (.inl (ci, fs))) (hs : fs[k]? = some y) (hv : ∀ g : zw_G, zw_sl g y (h.1 q k) = zw_tr g v) (hn : pc + 3 = np) (kk : zw M d mc ms Q np lv (v :: st) sh h ck cs) : zw M d mc ms Q pc lv (.ref q :: st) sh h ck cs := by
  subst hn
  intro p l e R s m args below meth c g H locs ls Z C0 hW hS hl hZ
  obtain ⟨h1, h2, h3, h4, h5⟩ := hf
  have hts := C0.2.2.2.2.2.1
  have hK := C0.2.2.2.2.2.2.2.2.1
  have hv2 := hv g
  have hsl : (fs.mapIdx (fun j y => zw_sl g y (h.1 q j)))[k]? = some (zw_tr g v) := by
    rw [List.getElem?_mapIdx, hs, ← hv2]
    rfl
  exact va_get C0.1 C0.2.1 hts h2 C0.2.2.2.2.1 hK.1 hW.2 q (zw_ws_at hq) h1 _ h3 (hts _ h5) (fun x hx => by rw [h4] at hx; exact hx) hsl hd (kk p l e R s m args below meth c g H locs ls Z C0 hW hS hl hZ)
theorem zw_getI {i ci k q N : Nat} {C : String} {T : u_T} {fs : List (Option (Option Nat))} (hf : zw_fld M.1.cls i ci k C T N) (hd : decode M.2.1 pc = .ok (.getfield i, 3)) (hq : sh[q]? = some (.inl (ci, fs))) (hs : fs[k]? = some none) (hn : pc + 3 = np) (k : zw M d mc ms Q np lv (.int (h.1 q k) :: st) sh h ck cs) : zw M d mc ms Q pc lv (.ref q :: st) sh h ck cs := zw_get hf hd hq hs (fun _ => rfl) hn k
theorem zw_getR {i ci k q N r : Nat} {C : String} {T : u_T} {fs : List (Option (Option Nat))} (hf : zw_fld M.1.cls i ci k C T N) (hd : decode M.2.1 pc = .ok (.getfield i, 3)) (hq : sh[q]? = some (.inl (ci, fs))) (hs : fs[k]? = some (some (some r))) (hn : pc + 3 = np) (k : zw M d mc ms Q np lv (.ref r :: st) sh h ck cs) : zw M d mc ms Q pc lv (.ref q :: st) sh h ck cs := zw_get hf hd hq hs (fun _ => rfl) hn k

/-- what a put needs of the class's tables -/
theorem zw_slot {g : zw_G} {s : State} {ci k N : Nat} {C : String} {T : u_T} {ty : Nat → FieldType} {H : Heap} {a : Nat} {fs : List Value} (hc : vwCl[ci]? = some (C, T, N)) (hin : ∀ w ∈ u_ws C T N, w ∈ zw_ts) (hT : zw_cls C T N ty) {args : Array Value} (hts : ∀ w ∈ zw_ts, w.before args s = true) (hK : zw_K g s) (hk : k < N) (hat : va_at g.2.2.2 vwCl (a, .inr (ci, fs)) H) :
    ∃ (cell : Cell) (kC : Class) (cf fi : Nat) (kf : Class) (f : Field), H[a]? = some cell ∧ cell.vm = .none ∧ cell.cls = g.2.2.2.1 ci ∧ s.vm.findClass C = some (g.2.2.2.1 ci) ∧ s.vm.classes[g.2.2.2.1 ci]? = some kC ∧ kC.kind = .ordinary ∧ s.fieldFound? (T k).1 (T k).2.1 (T k).2.2.1 = some (cf, kf, fi, f) ∧ f.slot = g.2.2.2.2 ci k ∧ f.isStatic = false ∧ f.slot < cell.slots.size ∧
      ∀ (v : Value) (H1 : Heap), k < fs.length → H1[a]? = some (cell.setSlot f.slot v) → va_at g.2.2.2 vwCl (a, .inr (ci, fs.set k v)) H1 := by
  obtain ⟨r, hr1, cell, q1, q2, q3, q4⟩ := hat
  have hr : r = (C, T, N) := Option.some.inj (hr1.symm.trans hc)
  subst hr
  obtain ⟨hS, hfc, kC, hkC, hkind⟩ := hK.1.1 ci _ hc
  obtain ⟨cf, kf, fi, f, hi, hsl⟩ := hS k hk
  have hap := va_apart (own := C) (args := args) hts hin ty hT.1 hT.2 hK.1 hc
  refine ⟨cell, kC, cf, fi, kf, f, q1, q3, q2, hfc, hkC, hkind, hi, hsl, (u_facts hfc hkC (u_lays (args := args) hts hin hk) hi).1, by rw [hsl]; exact k2_hasslot (q4 k hk), fun v H1 hl e1 => ?_⟩
  rw [hsl] at e1
  exact ⟨_, hc, t_OB.to (V := updV (vp_V fs) k v) ⟨_, e1, q2, q3, t_set q4 hap hk v⟩ (fun j _ => vp_updV_set hl v j)⟩
theorem zw_putW {g : zw_G} {sh sh' : zw_S} {h h' : zw_H} {H H1 : Heap} {q : Nat} {x y : va_E} (hW : zw_W g sh h H) (hlen : sh'.length = sh.length) (he : (zw_ws g sh h)[q]? = some (g.1 + q, x)) (es : (zw_ws g sh h).set q (g.1 + q, y) = zw_ws g sh' h') (z : H1.size = H.size) (oq : ∀ a : Nat, a ≠ g.1 + q → H1[a]? = H[a]?) (hat : va_at g.2.2.2 vwCl (g.1 + q, y) H1) : zw_W g sh' h' H1 :=
  ⟨by rw [z, hW.1, hlen], by rw [← es]; exact hW.2.set (zw_D g sh h) he hat oq⟩
theorem zw_putI {i ci k q N : Nat} {C : String} {T : u_T} {ty : Nat → FieldType} {fs : List (Option (Option Nat))} {x : Int32} (hf : zw_fld M.1.cls i ci k C T N) (hT : zw_cls C T N ty) (hfin : (T k).2.2.2 = false) (hx : narrow (ty k) (.int x) = .int x ∧ fits (ty k) (.int x) = true) (hd : decode M.2.1 pc = .ok (.putfield i, 3)) (hq : sh[q]? = some (.inl (ci, fs))) (hs : fs[k]? = some none) (hn : pc + 3 = np) (kk : zw M d mc ms Q np lv st sh (zw_sI h q k x) ck cs) : zw M d mc ms Q pc lv (.int x :: .ref q :: st) sh h ck cs := by
  subst hn
  intro p l e R s m args below meth c g H locs ls Z C0 hW hS hl hZ
  obtain ⟨h1, h2, h3, h4, h5⟩ := hf
  have hts := C0.2.2.2.2.2.1
  have hK := C0.2.2.2.2.2.2.2.2.1
  have hl2 := (List.getElem?_eq_some_iff.mp hs).1
  have es := zw_ws_set (g := g) (h := h) hq (zw_set_self hq) (zw_put (g := g) (x := x) hs) (fun j f hj => zw_cell_sI g h q k x j f hj)
  obtain ⟨cell, kC, cf, fi, kf, f, q1, q3, q2, hfc, hkC, hkind, hi, hsl, hst, hlt, hset⟩ := zw_slot h1 h2 hT hts hK h3 (hW.2 q _ (zw_ws_at hq))
  have hlay := hts _ (h2 _ (u_in_lay h3))
  unfold u_lay at hlay
  rw [if_neg (by rw [hfin]; decide)] at hlay
  refine W.putK (v := .int x) C0.1 C0.2.1 (f := f) ⟨C0.2.2.2.2.1, hts _ h5, ⟨_, _, _, by rw [h4] at hi; exact hi⟩, hst⟩ (by rw [q2]; exact u_store hfc hkC hkind hlay hi (hT.1 k h3) hx.1 hx.2) q1 q3 hlt rfl rfl hd fun H1 e1 e2 e3 => ?_
  exact kk p l e R s m args below meth c g H1 _ ls Z C0 (zw_putW hW rfl (zw_ws_at hq) es e2 e3 (hset _ _ (by simpa using hl2) e1)) (hS.put e2 e3 (Nat.le_add_right _ _)) hl hZ
theorem zw_putR {i ci k q r N : Nat} {C : String} {T : u_T} {ty : Nat → FieldType} {fs : List (Option (Option Nat))} (hf : zw_fld M.1.cls i ci k C T N) (hT : zw_cls C T N ty) (hfin : (T k).2.2.2 = true) (hin2 : M.1.name = "<init>") (hdecl : C = M.1.cls) (hx : ∀ a : Nat, narrow (ty k) (.ref a) = .ref a ∧ fits (ty k) (.ref a) = true) (hd : decode M.2.1 pc = .ok (.putfield i, 3)) (hq : sh[q]? = some (.inl (ci, fs))) (hs : k < fs.length) (hn : pc + 3 = np) (kk : zw M d mc ms Q np lv st (sh.set q (.inl (ci, fs.set k (some (some r))))) h ck cs) : zw M d mc ms Q pc lv (.ref r :: .ref q :: st) sh h ck cs := by
  subst hn
  intro p l e R s m args below meth c g H locs ls Z C0 hW hS hl hZ
  obtain ⟨h1, h2, h3, h4, h5⟩ := hf
  have hts := C0.2.2.2.2.2.1
  have hK := C0.2.2.2.2.2.2.2.2.1
  have es := zw_ws_set (g := g) (h := h) (h' := h) hq rfl (zw_putR' (g := g) (h := h) (q := q) (ci := ci) (r := r) hs) (fun j f hj => rfl)
  obtain ⟨cell, kC, cf, fi, kf, f, q1, q3, q2, hfc, hkC, hkind, hi, hsl, hst, hlt, hset⟩ := zw_slot h1 h2 hT hts hK h3 (hW.2 q _ (zw_ws_at hq))
  have hlay := hts _ (h2 _ (u_in_lay h3))
  unfold u_lay at hlay
  rw [if_pos hfin] at hlay
  have hcf : m.cls = cf := by
    obtain ⟨_, _, c', _, _, _, -, -, hf', -, -, -, hown2, -⟩ := Cond.laysFinal_spec hlay
    have e1 : c' = cf := by have := hi.symm.trans hf'; simp at this; exact this.1.symm
    rw [h4, hdecl] at hown2
    rw [← e1]; exact Option.some.inj (C0.2.2.2.2.1.symm.trans hown2)
  have h6 := u_fits hfc hkC hkind (Or.inr hlay) hi (hT.1 k h3) (hx (g.1 + r)).1 (hx (g.1 + r)).2
  refine W.putFinK (v := .ref (g.1 + r)) C0.1 C0.2.1 C0.2.2.2.2.1 (hts _ h5) (by rw [h4] at hi; exact hi) hst hcf (by rw [C0.2.2.2.2.2.2.2.1]; exact hin2) (by rw [q2]; exact h6) q1 q3 hlt rfl rfl hd fun H1 e1 e2 e3 => ?_
  exact kk p l e R s m args below meth c g H1 _ ls Z C0 (zw_putW hW (by simp) (zw_ws_at hq) es e2 e3 (hset _ _ (by simpa using hs) e1)) (hS.put e2 e3 (Nat.le_add_right _ _)) hl hZ
theorem zw_vin {i : Int32} {j n : Nat} (hi : i = nI j) (hj : j < n) (hn : n < 2 ^ 31) : vp_in i n ∧ i.toNatClampNeg = j := by
  subst hi
  exact ⟨vp_in_nI hj hn, nI_clamp (Nat.lt_trans hj hn)⟩
theorem zw_iald {i : Int32} {q n : Nat} {f : Nat → Option Nat} (j : Nat) (hd : decode M.2.1 pc = .ok (.iaload, 1)) (hq : sh[q]? = some (.inr (0, n, f))) (hi : i = nI j ∧ j < n) (hN : n < 2 ^ 31) (hn : pc + 1 = np) (kk : zw M d mc ms Q np lv (.int (h.1 q j) :: st) sh h ck cs) : zw M d mc ms Q pc lv (.int i :: .ref q :: st) sh h ck cs := by
  subst hn
  intro p l e R s m args below meth c g H locs ls Z C0 hW hS hl hZ
  obtain ⟨h1, h2⟩ := zw_vin hi.1 hi.2 hN
  refine va_iald C0.1 C0.2.1 C0.2.2.2.2.2.2.2.2.1.1 hW.2 q 0 (zw_ws_at hq) rfl h1 hd ?_
  rw [h2]
  exact kk p l e R s m args below meth c g H locs ls Z C0 hW hS hl hZ
theorem zw_zald {i : Int32} {q n : Nat} {f : Nat → Option Nat} (j : Nat) (hd : decode M.2.1 pc = .ok (.baload, 1)) (hq : sh[q]? = some (.inr (1, n, f))) (hi : i = nI j ∧ j < n) (hN : n < 2 ^ 31) (hn : pc + 1 = np) (kk : zw M d mc ms Q np lv (.int (h.1 q j) :: st) sh h ck cs) : zw M d mc ms Q pc lv (.int i :: .ref q :: st) sh h ck cs := by
  subst hn
  intro p l e R s m args below meth c g H locs ls Z C0 hW hS hl hZ
  obtain ⟨h1, h2⟩ := zw_vin hi.1 hi.2 hN
  refine va_zald C0.1 C0.2.1 C0.2.2.2.2.2.2.2.2.1.1 hW.2 q 1 (zw_ws_at hq) rfl h1 hd ?_
  rw [h2]
  exact kk p l e R s m args below meth c g H locs ls Z C0 hW hS hl hZ
theorem zw_lald {i : Int32} {q n : Nat} {f : Nat → Option Nat} (j : Nat) (hd : decode M.2.1 pc = .ok (.laload, 1)) (hq : sh[q]? = some (.inr (2, n, f))) (hi : i = nI j ∧ j < n) (hN : n < 2 ^ 31) (hn : pc + 1 = np) (kk : zw M d mc ms Q np lv (.long (h.2 q j) :: st) sh h ck cs) : zw M d mc ms Q pc lv (.int i :: .ref q :: st) sh h ck cs := by
  subst hn
  intro p l e R s m args below meth c g H locs ls Z C0 hW hS hl hZ
  obtain ⟨h1, h2⟩ := zw_vin hi.1 hi.2 hN
  refine va_lald C0.1 C0.2.1 C0.2.2.2.2.2.2.2.2.1.1 hW.2 q 2 (zw_ws_at hq) rfl h1 hd ?_
  rw [h2]
  exact kk p l e R s m args below meth c g H locs ls Z C0 hW hS hl hZ
theorem zw_aald {i : Int32} {q n r : Nat} {f : Nat → Option Nat} (j : Nat) (hd : decode M.2.1 pc = .ok (.aaload, 1)) (hq : sh[q]? = some (.inr (3, n, f))) (hi : i = nI j ∧ j < n) (hN : n < 2 ^ 31) (hr : f j = some r) (hn : pc + 1 = np) (kk : zw M d mc ms Q np lv (.ref r :: st) sh h ck cs) : zw M d mc ms Q pc lv (.int i :: .ref q :: st) sh h ck cs := by
  subst hn
  intro p l e R s m args below meth c g H locs ls Z C0 hW hS hl hZ
  obtain ⟨h1, h2⟩ := zw_vin hi.1 hi.2 hN
  refine va_aldq C0.1 C0.2.1 C0.2.2.2.2.2.2.2.2.1.1 hW.2 q 3 (zw_ws_at hq) rfl h1 hd ?_
  rw [h2, hr]
  exact kk p l e R s m args below meth c g H locs ls Z C0 hW hS hl hZ
theorem zw_iast {i x : Int32} {q n : Nat} {f : Nat → Option Nat} (j : Nat) (hd : decode M.2.1 pc = .ok (.iastore, 1)) (hq : sh[q]? = some (.inr (0, n, f))) (hi : i = nI j ∧ j < n) (hN : n < 2 ^ 31) (hn : pc + 1 = np) (kk : zw M d mc ms Q np lv st sh (zw_sI h q j x) ck cs) : zw M d mc ms Q pc lv (.int x :: .int i :: .ref q :: st) sh h ck cs := by
  subst hn
  intro p l e R s m args below meth c g H locs ls Z C0 hW hS hl hZ
  obtain ⟨h1, h2⟩ := zw_vin hi.1 hi.2 hN
  have hat := hW.2 q _ (zw_ws_at hq)
  have es := zw_ws_set (g := g) (h := h) (x := .inl (g.2.2.1.1, n, .inl (upd (h.1 q) j x))) hq (zw_set_self hq) (by rw [zw_upd]; rfl) (fun a f ha => zw_cell_sI g h q j x a f ha)
  refine W.iast C0.1 C0.2.1 hat ((C0.2.2.2.2.2.2.2.2.1.1.2 0 _ rfl).1 n (fun b => .int (h.1 q b))) (fun z => by cases z) (by show ¬ (i < 0 ∨ (arrV _ _ _).slots.size ≤ _); rw [arrV_size]; exact h1) rfl rfl hd fun H1 e1 e2 e3 => ?_
  refine kk p l e R s m args below meth c g H1 _ ls Z C0 (zw_putW hW rfl (zw_ws_at hq) es e2 e3 ?_) (hS.put e2 e3 (Nat.le_add_right _ _)) hl hZ
  show H1[_]? = some (vp_cell _ _)
  rw [e1]
  dsimp only
  rw [vp_cell_i, vp_cell_i, arrV_store, h2]
  congr 2
  funext b
  by_cases hb : b = j <;> simp [updV, upd, hb]
theorem zw_zast {i x : Int32} {q n : Nat} {f : Nat → Option Nat} (j : Nat) (hd : decode M.2.1 pc = .ok (.bastore, 1)) (hq : sh[q]? = some (.inr (1, n, f))) (hi : i = nI j ∧ j < n) (hN : n < 2 ^ 31) (hx : narrow .boolean (.int x) = .int x) (hn : pc + 1 = np) (kk : zw M d mc ms Q np lv st sh (zw_sI h q j x) ck cs) : zw M d mc ms Q pc lv (.int x :: .int i :: .ref q :: st) sh h ck cs := by
  subst hn
  intro p l e R s m args below meth c g H locs ls Z C0 hW hS hl hZ
  obtain ⟨h1, h2⟩ := zw_vin hi.1 hi.2 hN
  have hat := hW.2 q _ (zw_ws_at hq)
  have es := zw_ws_set (g := g) (h := h) (x := .inl (g.2.2.1.2.1, n, .inl (upd (h.1 q) j x))) hq (zw_set_self hq) (by rw [zw_upd]; rfl) (fun a f ha => zw_cell_sI g h q j x a f ha)
  refine W.zast C0.1 C0.2.1 hat ((C0.2.2.2.2.2.2.2.2.1.1.2 1 _ rfl).1 n (fun b => .int (h.1 q b))) (fun z => by cases z) (by show ¬ (i < 0 ∨ (arrV _ _ _).slots.size ≤ _); rw [arrV_size]; exact h1) rfl rfl hd fun H1 e1 e2 e3 => ?_
  refine kk p l e R s m args below meth c g H1 _ ls Z C0 (zw_putW hW rfl (zw_ws_at hq) es e2 e3 ?_) (hS.put e2 e3 (Nat.le_add_right _ _)) hl hZ
  show H1[_]? = some (vp_cell _ _)
  rw [e1, hx]
  dsimp only
  rw [vp_cell_i, vp_cell_i, arrV_store, h2]
  congr 2
  funext b
  by_cases hb : b = j <;> simp [updV, upd, hb]
theorem zw_last {i : Int32} {x : Int64} {q n : Nat} {f : Nat → Option Nat} (j : Nat) (hd : decode M.2.1 pc = .ok (.lastore, 1)) (hq : sh[q]? = some (.inr (2, n, f))) (hi : i = nI j ∧ j < n) (hN : n < 2 ^ 31) (hn : pc + 1 = np) (kk : zw M d mc ms Q np lv st sh (zw_sL h q j x) ck cs) : zw M d mc ms Q pc lv (.long x :: .int i :: .ref q :: st) sh h ck cs := by
  subst hn
  intro p l e R s m args below meth c g H locs ls Z C0 hW hS hl hZ
  obtain ⟨h1, h2⟩ := zw_vin hi.1 hi.2 hN
  have hat := hW.2 q _ (zw_ws_at hq)
  have es := zw_ws_set (g := g) (h := h) (x := .inl (g.2.2.1.2.2.1, n, .inr (.inl (vp_updL (h.2 q) j x)))) hq (zw_set_self hq) (by rw [zw_updL]; rfl) (fun a f ha => zw_cell_sL g h q j x a f ha)
  refine W.last C0.1 C0.2.1 hat ((C0.2.2.2.2.2.2.2.2.1.1.2 2 _ rfl).1 n (fun b => .long (h.2 q b))) (fun z => by cases z) (by show ¬ (i < 0 ∨ (arrV _ _ _).slots.size ≤ _); rw [arrV_size]; exact h1) rfl rfl hd fun H1 e1 e2 e3 => ?_
  refine kk p l e R s m args below meth c g H1 _ ls Z C0 (zw_putW hW rfl (zw_ws_at hq) es e2 e3 ?_) (hS.put e2 e3 (Nat.le_add_right _ _)) hl hZ
  show H1[_]? = some (vp_cell _ _)
  rw [e1]
  dsimp only
  rw [vp_cell_l, vp_cell_l, arrV_store, h2]
  congr 2
  funext b
  by_cases hb : b = j <;> simp [updV, vp_updL, hb]
theorem zw_aast {i : Int32} {q n r : Nat} {fs : List (Option (Option Nat))} {f : Nat → Option Nat} (j : Nat) (hd : decode M.2.1 pc = .ok (.aastore, 1)) (hq : sh[q]? = some (.inr (3, n, f))) (hr : sh[r]? = some (.inl (5, fs))) (hi : i = nI j ∧ j < n) (hN : n < 2 ^ 31) (hn : pc + 1 = np) (kk : zw M d mc ms Q np lv st (sh.set q (.inr (3, n, va_up f j (some r)))) h ck cs) : zw M d mc ms Q pc lv (.ref r :: .int i :: .ref q :: st) sh h ck cs := by
  subst hn
  intro p l e R s m args below meth c g H locs ls Z C0 hW hS hl hZ
  obtain ⟨h1, h2⟩ := zw_vin hi.1 hi.2 hN
  have hK := C0.2.2.2.2.2.2.2.2.1
  have hat := hW.2 q _ (zw_ws_at hq)
  have es := zw_ws_set (g := g) (h := h) (h' := h) (x := .inl (g.2.2.1.2.2.2, n, .inr (.inr (.inr (.inr (va_up (fun i => (f i).map (g.1 + ·)) j (some (g.1 + r)))))))) (e' := .inr (3, n, va_up f j (some r))) hq rfl (by
    show Sum.inl (_, n, Sum.inr (Sum.inr (Sum.inr (Sum.inr _)))) = _
    congr 7
    funext b
    by_cases hb : b = j <;> simp [va_up, hb]) (fun a f ha => rfl)
  obtain ⟨r', hr', cellV, g1, g2, g3, -⟩ := hW.2 r _ (zw_ws_at hr)
  have hcls := (hK.1.1 5 (RX5, TX5, 7) rfl).2
  obtain ⟨kA, comp, k1, k2, k3, -⟩ := (hK.1.2 3 _ rfl).2
  have hcomp : comp = g.2.2.2.1 5 := Option.some.inj (k3.symm.trans hcls.1)
  subst hcomp
  obtain ⟨kC, hkC, -⟩ := id hcls.2
  have hlt : i.toNatClampNeg < n := by rw [h2]; exact hi.2
  refine W.aast C0.1 C0.2.1 hat (fun q h => by cases h) (fun h => by cases h) k1 k2 rfl hkC ⟨fun z => h1 (Or.inl z), by show _ < (arrV _ _ _).slots.size; rw [arrV_size]; exact hlt⟩ g1 (fun q h => by rw [g3] at h; cases h) (by rw [g2]; exact hkC) (by rw [g2]; exact va_assign hcls) rfl rfl hd fun H1 e1 e2 e3 => ?_
  refine kk p l e R s m args below meth c g H1 _ ls Z C0 (zw_putW hW (by simp) (zw_ws_at hq) es e2 e3 ?_) (hS.put e2 e3 (Nat.le_add_right _ _)) hl hZ
  show H1[_]? = some (vp_cell _ _)
  rw [e1]
  dsimp only
  rw [vp_cell_q, vp_cell_q, arrV_store, h2]
  congr 2
  funext b
  by_cases hb : b = j <;> simp [updV, va_up, va_rf, hb]
/-- a new cell -/
theorem zw_newW {g : zw_G} {sh : zw_S} {h : zw_H} {H H1 : Heap} {e : zw_E} {x : va_E} (hW : zw_W g sh h H) (hx : zw_cell g (zw_z h sh.length) sh.length e = x) (z : H1.size = H.size + 1) (oq : ∀ a : Nat, a < H.size → H1[a]? = H[a]?) (hat : va_at g.2.2.2 vwCl (g.1 + sh.length, x) H1) : zw_W g (sh ++ [e]) (zw_z h sh.length) H1 := by
  refine ⟨by rw [z, hW.1]; simp; omega, ?_⟩
  rw [← zw_ws_new (h := h) hx (fun j f hj => zw_cell_z g h sh.length j f (Nat.ne_of_lt hj))]
  refine (hW.2.kept (fun k q hk => oq _ (hW.2 k q hk).lt)).app (fun k q hk => ?_)
  have hz : k < 1 := (List.getElem?_eq_some_iff.mp hk).1
  rw [show k = 0 by omega] at hk
  cases hk
  exact hat
theorem zw_new {i ci N : Nat} {C : String} {T : u_T} {ty : Nat → FieldType} {fs : List (Option (Option Nat))} (hc : vwCl[ci]? = some (C, T, N)) (hin : ∀ w ∈ u_ws C T N, w ∈ zw_ts) (hT : zw_cls C T N ty) (hwl : Cond.classLink M.1.cls i C ∈ zw_ts) (hwi : Cond.instantiable C N ∈ zw_ts) (hwn : Cond.initialized C ∈ zw_ts) (hfs : ∀ g : zw_G, ∀ j, j < N → defaultValue (ty j) = vp_V (fs.mapIdx (fun _ y => zw_sl g y 0)) j) (hd : decode M.2.1 pc = .ok (.new i, 3)) (hk : ck + 1 ≤ mc) (hs : cs + N ≤ ms) (hn : pc + 3 = np) (kk : zw M d mc ms Q np lv (.ref sh.length :: st) (sh ++ [.inl (ci, fs)]) (zw_z h sh.length) (ck + 1) (cs + N)) : zw M d mc ms Q pc lv st sh h ck cs := by
  subst hn
  intro p l e R s m args below meth c g H locs ls Z C0 hW hS hl hZ
  have hts := C0.2.2.2.2.2.1
  have hK := C0.2.2.2.2.2.2.2.2.1
  have hKn := hK.1.1 ci _ hc
  refine W.newcK C0.1 C0.2.1 C0.2.2.2.2.1 (hts _ hwl) (hts _ hwi) (hts _ hwn) rfl hd (Nat.le_trans hk C0.2.2.2.2.2.2.2.2.2.2.2.2.2.1) (Nat.le_trans hs C0.2.2.2.2.2.2.2.2.2.2.2.2.2.2) hKn.2.1 rfl fun H1 kC hkC e1 z1 o1 => ?_
  rw [hW.1]
  refine kk p l e R s m args below meth c g H1 locs ls Z C0 (zw_newW hW (x := .inr (ci, fs.mapIdx (fun _ y => zw_sl g y 0))) ?_ z1 o1 ?_) ⟨Nat.le_trans hS.1 (by omega), fun x h1 h2 => (o1 x (Nat.lt_of_lt_of_le h1 hS.1)).trans (hS.2.1 x h1 h2), hS.2.2⟩ hl hZ
  · show Sum.inr (ci, fs.mapIdx (fun j y => zw_sl g y ((zw_z h sh.length).1 sh.length j))) = _
    simp [zw_z]
  · rw [← hW.1]
    exact ⟨_, hc, (u_born ty hts hin hKn hkC e1 hT.1).to (hfs g)⟩
/-- the array class that a new array has is the one that we know -/
theorem zw_cA {g : zw_G} {s : State} {cA cB : ClassId} {ty : FieldType} {kd : Nat} (hK : zw_K g s) (hkd : (zw_tys g)[kd]? = some (cB, ty)) (hp : ∀ C, ty ≠ .object C) (h : s.vm.findClass ("[" ++ ty.toString) = some cA) : cA = cB := by
  have h2 := (hK.1.2 kd _ hkd).2
  cases ty with
  | object C => exact absurd rfl (hp C)
  | _ => exact Option.some.inj (h.symm.trans h2)
theorem zw_newI {n : Nat} {x : Int32} (hw : Cond.arrayClass .int ∈ zw_ts) (hd : decode M.2.1 pc = .ok (.newarray .int, 2)) (hx : x = nI n) (hN : n < 100000) (hk : ck + 1 ≤ mc) (hs : cs + n ≤ ms) (hn : pc + 2 = np) (kk : zw M d mc ms Q np lv (.ref sh.length :: st) (sh ++ [.inr (0, n, fun _ => none)]) (zw_z h sh.length) (ck + 1) (cs + n)) : zw M d mc ms Q pc lv (.int x :: st) sh h ck cs := by
  subst hn hx
  intro p l e R s m args below meth c g H locs ls Z C0 hW hS hl hZ
  have hK := C0.2.2.2.2.2.2.2.2.1
  refine va_newaK C0.1 C0.2.1 (atype := .int) (C0.2.2.2.2.2.1 _ hw) rfl hd rfl (nI_pos (by omega)) (nI_clamp (by omega)) (show n * 4 ≤ 536870912 by omega) (Nat.le_trans hk C0.2.2.2.2.2.2.2.2.2.2.2.2.2.1) (Nat.le_trans hs C0.2.2.2.2.2.2.2.2.2.2.2.2.2.2) rfl fun H1 cA e1 z1 o1 hAr hNm => ?_
  have hcA := zw_cA (kd := 0) hK rfl (by intro C z; cases z) hNm
  subst hcA
  rw [hW.1]
  refine kk p l e R s m args below meth c g H1 locs ls Z C0 (zw_newW hW (x := .inl (g.2.2.1.1, n, .inl (fun _ => 0))) ?_ z1 o1 ?_) ⟨Nat.le_trans hS.1 (by omega), fun x h1 h2 => (o1 x (Nat.lt_of_lt_of_le h1 hS.1)).trans (hS.2.1 x h1 h2), hS.2.2⟩ hl hZ
  · show Sum.inl (_, n, Sum.inl ((zw_z h sh.length).1 sh.length)) = _
    simp [zw_z]
  · rw [← hW.1]
    exact e1
theorem zw_newZ {n : Nat} {x : Int32} (hw : Cond.arrayClass .boolean ∈ zw_ts) (hd : decode M.2.1 pc = .ok (.newarray .boolean, 2)) (hx : x = nI n) (hN : n < 100000) (hk : ck + 1 ≤ mc) (hs : cs + n ≤ ms) (hn : pc + 2 = np) (kk : zw M d mc ms Q np lv (.ref sh.length :: st) (sh ++ [.inr (1, n, fun _ => none)]) (zw_z h sh.length) (ck + 1) (cs + n)) : zw M d mc ms Q pc lv (.int x :: st) sh h ck cs := by
  subst hn hx
  intro p l e R s m args below meth c g H locs ls Z C0 hW hS hl hZ
  have hK := C0.2.2.2.2.2.2.2.2.1
  refine va_newaK C0.1 C0.2.1 (atype := .boolean) (C0.2.2.2.2.2.1 _ hw) rfl hd rfl (nI_pos (by omega)) (nI_clamp (by omega)) (show n * 1 ≤ 536870912 by omega) (Nat.le_trans hk C0.2.2.2.2.2.2.2.2.2.2.2.2.2.1) (Nat.le_trans hs C0.2.2.2.2.2.2.2.2.2.2.2.2.2.2) rfl fun H1 cA e1 z1 o1 hAr hNm => ?_
  have hcA := zw_cA (kd := 1) hK rfl (by intro C z; cases z) hNm
  subst hcA
  rw [hW.1]
  refine kk p l e R s m args below meth c g H1 locs ls Z C0 (zw_newW hW (x := .inl (g.2.2.1.2.1, n, .inl (fun _ => 0))) ?_ z1 o1 ?_) ⟨Nat.le_trans hS.1 (by omega), fun x h1 h2 => (o1 x (Nat.lt_of_lt_of_le h1 hS.1)).trans (hS.2.1 x h1 h2), hS.2.2⟩ hl hZ
  · show Sum.inl (_, n, Sum.inl ((zw_z h sh.length).1 sh.length)) = _
    simp [zw_z]
  · rw [← hW.1]
    exact e1
theorem zw_newL {n : Nat} {x : Int32} (hw : Cond.arrayClass .long ∈ zw_ts) (hd : decode M.2.1 pc = .ok (.newarray .long, 2)) (hx : x = nI n) (hN : n < 100000) (hk : ck + 1 ≤ mc) (hs : cs + n ≤ ms) (hn : pc + 2 = np) (kk : zw M d mc ms Q np lv (.ref sh.length :: st) (sh ++ [.inr (2, n, fun _ => none)]) (zw_z h sh.length) (ck + 1) (cs + n)) : zw M d mc ms Q pc lv (.int x :: st) sh h ck cs := by
  subst hn hx
  intro p l e R s m args below meth c g H locs ls Z C0 hW hS hl hZ
  have hK := C0.2.2.2.2.2.2.2.2.1
  refine va_newaK C0.1 C0.2.1 (atype := .long) (C0.2.2.2.2.2.1 _ hw) rfl hd rfl (nI_pos (by omega)) (nI_clamp (by omega)) (show n * 8 ≤ 536870912 by omega) (Nat.le_trans hk C0.2.2.2.2.2.2.2.2.2.2.2.2.2.1) (Nat.le_trans hs C0.2.2.2.2.2.2.2.2.2.2.2.2.2.2) rfl fun H1 cA e1 z1 o1 hAr hNm => ?_
  have hcA := zw_cA (kd := 2) hK rfl (by intro C z; cases z) hNm
  subst hcA
  rw [hW.1]
  refine kk p l e R s m args below meth c g H1 locs ls Z C0 (zw_newW hW (x := .inl (g.2.2.1.2.2.1, n, .inr (.inl (fun _ => 0)))) ?_ z1 o1 ?_) ⟨Nat.le_trans hS.1 (by omega), fun x h1 h2 => (o1 x (Nat.lt_of_lt_of_le h1 hS.1)).trans (hS.2.1 x h1 h2), hS.2.2⟩ hl hZ
  · show Sum.inl (_, n, Sum.inr (Sum.inl ((zw_z h sh.length).2 sh.length))) = _
    simp [zw_z]
  · rw [← hW.1]
    exact e1
theorem zw_newS {i n : Nat} {x : Int32} (hw : Cond.classLink M.1.cls i "PartitionPoset$State" ∈ zw_ts) (hd : decode M.2.1 pc = .ok (.anewarray i, 3)) (hx : x = nI n) (hN : n < 100000) (hk : ck + 1 ≤ mc) (hs : cs + n ≤ ms) (hn : pc + 3 = np) (kk : zw M d mc ms Q np lv (.ref sh.length :: st) (sh ++ [.inr (3, n, fun _ => none)]) (zw_z h sh.length) (ck + 1) (cs + n)) : zw M d mc ms Q pc lv (.int x :: st) sh h ck cs := by
  subst hn hx
  intro p l e R s m args below meth c g H locs ls Z C0 hW hS hl hZ
  have hK := C0.2.2.2.2.2.2.2.2.1
  have hcl : (nI n).toNatClampNeg = n := nI_clamp (by omega)
  refine W.anew C0.1 C0.2.1 C0.2.2.2.2.1 (C0.2.2.2.2.2.1 _ hw) (va_AO.use hK.2.2) rfl hd rfl (nI_pos (by omega)) (by rw [hcl]; omega) (Nat.le_trans hk C0.2.2.2.2.2.2.2.2.2.2.2.2.2.1) (by rw [hcl]; exact Nat.le_trans hs C0.2.2.2.2.2.2.2.2.2.2.2.2.2.2) fun cA kA comp f1 f2 f3 f4 => ?_
  rw [hcl]
  generalize hH1 : H.push ({ cls := cA, slots := Array.replicate n .null, vm := .none } : Cell) = H1
  have z1 : H1.size = H.size + 1 := by rw [← hH1, Array.size_push]
  have e1 : H1[H.size]? = some (arrV cA n (fun _ => .null)) := by rw [← hH1, Array.getElem?_push_size, ← arrV_new]
  have o1 : ∀ q : Nat, q < H.size → H1[q]? = H[q]? := fun q hq => by rw [← hH1, Array.getElem?_push, if_neg (Nat.ne_of_lt hq)]
  obtain ⟨kA2, comp2, k1, k2, k3, k4⟩ := (hK.1.2 3 _ rfl).2
  have hcA : cA = g.2.2.1.2.2.2 := Option.some.inj (f1.symm.trans k4)
  subst hcA
  rw [hW.1]
  refine kk p l e R s m args below meth c g H1 locs ls Z C0 (zw_newW hW (x := .inl (g.2.2.1.2.2.2, n, .inr (.inr (.inr (.inr (fun _ => none)))))) ?_ z1 o1 ?_) ⟨Nat.le_trans hS.1 (by omega), fun x h1 h2 => (o1 x (Nat.lt_of_lt_of_le h1 hS.1)).trans (hS.2.1 x h1 h2), hS.2.2⟩ hl hZ
  · rfl
  · rw [← hW.1]
    exact e1
/-- the tables -/
theorem zw_getS {i : Nat} (hw : Cond.fieldLink M.1.cls i RX7 "SMALLER" "[I" ∈ zw_ts ∨ Cond.fieldLinkNest M.1.cls i RX7 "SMALLER" "[I" RX7 ∈ zw_nest) (hd : decode M.2.1 pc = .ok (.getstatic i, 3)) (hn : pc + 3 = np) (kk : zw M d mc ms Q np lv (.retAddr 0 :: st) sh h ck cs) : zw M d mc ms Q pc lv st sh h ck cs := by
  subst hn
  intro p l e R s m args below meth c g H locs ls Z C0 hW hS hl hZ
  have hK := C0.2.2.2.2.2.2.2.2.1
  have hT := C0.2.2.2.2.2.2.2.2.2.1
  rcases hw with hw | hw
  · exact va_gets C0.1 C0.2.1 hT.1 hS C0.2.2.2.2.1 (C0.2.2.2.2.2.1 _ hw) (fun x hx => hx) hd (kk p l e R s m args below meth c g H locs ls Z C0 hW hS hl hZ)
  · exact va_getsN C0.1 C0.2.1 hT.1 hS C0.2.2.2.2.1 (va_Nw.use rfl (hK.2.1 _ hw)) (fun x hx => hx) hd (kk p l e R s m args below meth c g H locs ls Z C0 hW hS hl hZ)
theorem zw_getG {i : Nat} (hw : Cond.fieldLink M.1.cls i RX7 "GREATER" "[I" ∈ zw_ts ∨ Cond.fieldLinkNest M.1.cls i RX7 "GREATER" "[I" RX7 ∈ zw_nest) (hd : decode M.2.1 pc = .ok (.getstatic i, 3)) (hn : pc + 3 = np) (kk : zw M d mc ms Q np lv (.retAddr 1 :: st) sh h ck cs) : zw M d mc ms Q pc lv st sh h ck cs := by
  subst hn
  intro p l e R s m args below meth c g H locs ls Z C0 hW hS hl hZ
  have hK := C0.2.2.2.2.2.2.2.2.1
  have hT := C0.2.2.2.2.2.2.2.2.2.1
  rcases hw with hw | hw
  · exact va_gets C0.1 C0.2.1 hT.2.2.1 hS C0.2.2.2.2.1 (C0.2.2.2.2.2.1 _ hw) (fun x hx => hx) hd (kk p l e R s m args below meth c g H locs ls Z C0 hW hS hl hZ)
  · exact va_getsN C0.1 C0.2.1 hT.2.2.1 hS C0.2.2.2.2.1 (va_Nw.use rfl (hK.2.1 _ hw)) (fun x hx => hx) hd (kk p l e R s m args below meth c g H locs ls Z C0 hW hS hl hZ)
theorem zw_ialdS {i : Int32} (j : Nat) (hd : decode M.2.1 pc = .ok (.iaload, 1)) (hi : i = nI j ∧ j < 15) (hn : pc + 1 = np) (kk : zw M d mc ms Q np lv (.int (zw_small j) :: st) sh h ck cs) : zw M d mc ms Q pc lv (.int i :: .retAddr 0 :: st) sh h ck cs := by
  subst hn
  intro p l e R s m args below meth c g H locs ls Z C0 hW hS hl hZ
  obtain ⟨h1, h2⟩ := zw_vin hi.1 hi.2 (by decide)
  exact va_ti C0.1 C0.2.1 C0.2.2.2.2.2.2.2.2.2.1.2.1 hS h1 (v := .int (zw_small j)) (by rw [h2]) hd (kk p l e R s m args below meth c g H locs ls Z C0 hW hS hl hZ)
theorem zw_ialdG {i : Int32} (j : Nat) (hd : decode M.2.1 pc = .ok (.iaload, 1)) (hi : i = nI j ∧ j < 15) (hn : pc + 1 = np) (kk : zw M d mc ms Q np lv (.int (zw_great j) :: st) sh h ck cs) : zw M d mc ms Q pc lv (.int i :: .retAddr 1 :: st) sh h ck cs := by
  subst hn
  intro p l e R s m args below meth c g H locs ls Z C0 hW hS hl hZ
  obtain ⟨h1, h2⟩ := zw_vin hi.1 hi.2 (by decide)
  exact va_ti C0.1 C0.2.1 C0.2.2.2.2.2.2.2.2.2.1.2.2.2 hS h1 (v := .int (zw_great j)) (by rw [h2]) hd (kk p l e R s m args below meth c g H locs ls Z C0 hW hS hl hZ)
theorem zw_sld {i : Int32} (j : Nat) (hL : M.2.2.2.2.1 ≠ 0) (hN : M.2.2.2.2.1 - 1 < 2 ^ 31) (hd : decode M.2.1 pc = .ok (.iaload, 1)) (hi : i = nI j ∧ j < M.2.2.2.2.1 - 1) (hn : pc + 1 = np) (kk : zw M d mc ms Q np lv (.int (M.2.2.2.2.2 j) :: st) sh h ck cs) : zw M d mc ms Q pc lv (.int i :: .retAddr 2 :: st) sh h ck cs := by
  subst hn
  intro p l e R s m args below meth c g H locs ls Z C0 hW hS hl hZ
  obtain ⟨h1, h2⟩ := zw_vin hi.1 hi.2 hN
  rcases C0.2.2.2.2.2.2.2.2.2.2.1.2 with hx | ⟨hx, hb, hc⟩
  · exact absurd hx hL
  · refine va_sld C0.1 C0.2.1 hx hb (Nat.not_le.mpr hc) hS h1 hd ?_
    rw [h2]
    exact kk p l e R s m args below meth c g H locs ls Z C0 hW hS hl hZ
theorem zw_slen (hL : M.2.2.2.2.1 ≠ 0) (hd : decode M.2.1 pc = .ok (.arraylength, 1)) (hn : pc + 1 = np) (kk : zw M d mc ms Q np lv (.int (nI (M.2.2.2.2.1 - 1)) :: st) sh h ck cs) : zw M d mc ms Q pc lv (.retAddr 2 :: st) sh h ck cs := by
  subst hn
  intro p l e R s m args below meth c g H locs ls Z C0 hW hS hl hZ
  rcases C0.2.2.2.2.2.2.2.2.2.2.1.2 with hx | ⟨hx, hb, hc⟩
  · exact absurd hx hL
  · exact va_slen C0.1 C0.2.1 hx hb (Nat.not_le.mpr hc) hS hd (kk p l e R s m args below meth c g H locs ls Z C0 hW hS hl hZ)
theorem zw_objInit {i x : Nat} (hw : Cond.methodLink M.1.cls i objectInit ∈ zw_ts) (hw2 : Cond.instanceMethod objectInit ∈ zw_ts) (hw3 : Cond.code objectInit ⟨#[0xb1]⟩ 1 none ∈ zw_ts) (hd : decode M.2.1 pc = .ok (.invokespecial i, 3)) (hdep : 1 ≤ d) (hst : (st.map fun v => v.category).sum ≤ 8) (hn : pc + 3 = np) (kk : zw M d mc ms Q np lv st sh h ck cs) : zw M d mc ms Q pc lv (.ref x :: st) sh h ck cs := by
  subst hn
  intro p l e R s m args below meth c g H locs ls Z C0 hW hS hl hZ
  have hts := C0.2.2.2.2.2.1
  refine W.objInit C0.1 C0.2.1 C0.2.2.2.2.1 (hts _ hw) (hts _ hw2) (hts _ hw3) rfl (by rw [C0.2.2.2.1]; exact hl.1) rfl hd (Nat.le_trans hdep C0.2.2.2.2.2.2.2.2.2.2.2.1) ?_ (kk p l e R s m args below meth c g H locs ls Z C0 hW hS hl hZ)
  have h1 := C0.2.2.2.2.2.2.2.2.2.2.2.2.1
  have h2 := lv_room (m := m) (pc := pc) (ls := ls) (rest := (.ref x :: st).map (zw_tr g)) (st := st.map (zw_tr g)) (by rw [zw_tr_sum]; exact hst)
  omega
end ZH
