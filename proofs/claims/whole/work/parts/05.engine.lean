abbrev zw_M : Type := MethodName × ByteArray × Nat × Option FieldType × Nat × (Nat → Int32)
abbrev zw_E : Type := (Nat × List (Option (Option Nat))) ⊕ (Nat × Nat × (Nat → Option Nat))
abbrev zw_S : Type := List zw_E
abbrev zw_H : Type := (Nat → Nat → Int32) × (Nat → Nat → Int64)
/-- base, the two tables' addresses, the script's, the array classes, the classes -/
abbrev zw_G : Type := Nat × (Nat × Nat × Nat) × (ClassId × ClassId × ClassId × ClassId) × va_G
def zw_tr (g : zw_G) : Value → Value
  | .ref k => .ref (g.1 + k)
  | .retAddr k => .ref (match k with | 0 => g.2.1.1 | 1 => g.2.1.2.1 | _ => g.2.1.2.2)
  | .int x => .int x
  | .long x => .long x
  | .float x => .float x
  | .double x => .double x
  | .null => .null
theorem zw_tr_cat (g : zw_G) (v : Value) : (zw_tr g v).category = v.category := by cases v <;> rfl
theorem zw_tr_sum (g : zw_G) (st : List Value) : ((st.map (zw_tr g)).map fun v => v.category).sum = (st.map fun v => v.category).sum := by
  rw [List.map_map]
  congr 1
  exact List.map_congr_left (fun v _ => zw_tr_cat g v)
def zw_sl (g : zw_G) : Option (Option Nat) → Int32 → Value
  | none, x => .int x
  | some none, _ => .null
  | some (some r), _ => .ref (g.1 + r)
def zw_cell (g : zw_G) (h : zw_H) (k : Nat) : zw_E → va_E
  | .inl o => .inr (o.1, o.2.mapIdx (fun j x => zw_sl g x (h.1 k j)))
  | .inr (0, n, _) => .inl (g.2.2.1.1, n, .inl (h.1 k))
  | .inr (1, n, _) => .inl (g.2.2.1.2.1, n, .inl (h.1 k))
  | .inr (2, n, _) => .inl (g.2.2.1.2.2.1, n, .inr (.inl (h.2 k)))
  | .inr (_, n, q) => .inl (g.2.2.1.2.2.2, n, .inr (.inr (.inr (.inr (fun i => (q i).map (g.1 + ·))))))
def zw_ws (g : zw_G) (sh : zw_S) (h : zw_H) : va_W := sh.mapIdx (fun k e => (g.1 + k, zw_cell g h k e))
theorem zw_ws_at {g : zw_G} {sh : zw_S} {h : zw_H} {k : Nat} {e : zw_E} (hk : sh[k]? = some e) : (zw_ws g sh h)[k]? = some (g.1 + k, zw_cell g h k e) := by
  unfold zw_ws
  rw [List.getElem?_mapIdx, hk]
  rfl
theorem zw_ws_of {g : zw_G} {sh : zw_S} {h : zw_H} {k : Nat} {q : Nat × va_E} (hk : (zw_ws g sh h)[k]? = some q) : ∃ e, sh[k]? = some e ∧ q = (g.1 + k, zw_cell g h k e) := by
  unfold zw_ws at hk
  rw [List.getElem?_mapIdx] at hk
  cases he : sh[k]? with
  | none => rw [he] at hk; cases hk
  | some e => rw [he] at hk; exact ⟨e, rfl, (Option.some.inj hk).symm⟩
theorem zw_D (g : zw_G) (sh : zw_S) (h : zw_H) : va_D (fun q => g.1 ≤ q) (zw_ws g sh h) := by
  refine ⟨fun i j p q hi hj e => ?_, fun k q hk => ?_⟩
  · obtain ⟨e1, -, rfl⟩ := zw_ws_of hi
    obtain ⟨e2, -, rfl⟩ := zw_ws_of hj
    exact Nat.add_left_cancel e
  · obtain ⟨e1, -, rfl⟩ := zw_ws_of hk
    exact Nat.le_add_right _ _
/-- a world whose cell k alone is another one -/
theorem zw_ws_set {g : zw_G} {sh sh' : zw_S} {h h' : zw_H} {k : Nat} {e e' : zw_E} {x : va_E} (hk : sh[k]? = some e) (hk' : sh' = sh.set k e') (hx : zw_cell g h' k e' = x) (ho : ∀ (j : Nat) (f : zw_E), j ≠ k → zw_cell g h' j f = zw_cell g h j f) :
    (zw_ws g sh h).set k (g.1 + k, x) = zw_ws g sh' h' := by
  subst hk' hx
  have hl := (List.getElem?_eq_some_iff.mp hk).1
  apply List.ext_getElem?
  intro j
  unfold zw_ws
  by_cases hj : j = k
  · subst hj
    rw [List.getElem?_set_self (by simpa using hl), List.getElem?_mapIdx, List.getElem?_set_self hl]
    rfl
  · rw [List.getElem?_set_ne (Ne.symm hj), List.getElem?_mapIdx, List.getElem?_mapIdx, List.getElem?_set_ne (Ne.symm hj)]
    cases sh[j]? with
    | none => rfl
    | some f => simp only [Option.map_some, ho j f hj]
theorem zw_ws_new {g : zw_G} {sh : zw_S} {h h' : zw_H} {e : zw_E} {x : va_E} (hx : zw_cell g h' sh.length e = x) (ho : ∀ (j : Nat) (f : zw_E), j < sh.length → zw_cell g h' j f = zw_cell g h j f) :
    zw_ws g sh h ++ [(g.1 + sh.length, x)] = zw_ws g (sh ++ [e]) h' := by
  subst hx
  unfold zw_ws
  rw [List.mapIdx_append]
  congr 1
  · apply List.ext_getElem?
    intro j
    rw [List.getElem?_mapIdx, List.getElem?_mapIdx]
    cases hj : sh[j]? with
    | none => rfl
    | some f => simp only [Option.map_some, ho j f (List.getElem?_eq_some_iff.mp hj).1]
  · simp
def zw_sI (h : zw_H) (k j : Nat) (x : Int32) : zw_H := (fun a b => if a = k ∧ b = j then x else h.1 a b, h.2)
def zw_sL (h : zw_H) (k j : Nat) (x : Int64) : zw_H := (h.1, fun a b => if a = k ∧ b = j then x else h.2 a b)
theorem zw_sI_s (h : zw_H) (k j : Nat) (x : Int32) : (zw_sI h k j x).1 k j = x := by simp [zw_sI]
theorem zw_sI_n {h : zw_H} {k j a b : Nat} {x : Int32} (hn : a ≠ k ∨ b ≠ j) : (zw_sI h k j x).1 a b = h.1 a b := by
  simp only [zw_sI]
  rw [if_neg]
  rintro ⟨rfl, rfl⟩
  rcases hn with hn | hn <;> exact hn rfl
theorem zw_sL_s (h : zw_H) (k j : Nat) (x : Int64) : (zw_sL h k j x).2 k j = x := by simp [zw_sL]
theorem zw_sL_n {h : zw_H} {k j a b : Nat} {x : Int64} (hn : a ≠ k ∨ b ≠ j) : (zw_sL h k j x).2 a b = h.2 a b := by
  simp only [zw_sL]
  rw [if_neg]
  rintro ⟨rfl, rfl⟩
  rcases hn with hn | hn <;> exact hn rfl
theorem zw_cell_sI (g : zw_G) (h : zw_H) (k j : Nat) (x : Int32) (a : Nat) (f : zw_E) (ha : a ≠ k) : zw_cell g (zw_sI h k j x) a f = zw_cell g h a f := by
  have e : (zw_sI h k j x).1 a = h.1 a := by funext b; exact zw_sI_n (Or.inl ha)
  have e2 : (zw_sI h k j x).2 = h.2 := rfl
  unfold zw_cell
  rcases f with f | ⟨n, f⟩
  · simp only [e]
  · split <;> simp_all
theorem zw_cell_sL (g : zw_G) (h : zw_H) (k j : Nat) (x : Int64) (a : Nat) (f : zw_E) (ha : a ≠ k) : zw_cell g (zw_sL h k j x) a f = zw_cell g h a f := by
  have e : (zw_sL h k j x).2 a = h.2 a := by funext b; exact zw_sL_n (Or.inl ha)
  have e2 : (zw_sL h k j x).1 = h.1 := rfl
  unfold zw_cell
  rcases f with f | ⟨n, f⟩
  · simp only [e2]
  · split <;> simp_all
/-- the rows of the tables that a method may carry -/
def zw_ts : List Cond := lw_tbl.filter goodWord
def zw_nest : List Cond := lw_tbl.filter (fun w => match w with | .fieldLinkNest _ _ _ _ _ _ => true | .methodLinkNest _ _ _ _ => true | _ => false)
theorem zw_ts_good : ∀ w ∈ zw_ts, goodWord w = true := fun _ h => (List.mem_filter.mp h).2
def zw_small : Nat → Int32 := fun j => [0, 0, 0, 0, 0, 1, 1, 1, 1, 2, 2, 2, 3, 3, 4].getD j 0
def zw_great : Nat → Int32 := fun j => [1, 2, 3, 4, 5, 2, 3, 4, 5, 3, 4, 5, 4, 5, 5].getD j 0
def zw_tys (g : zw_G) : List (ClassId × FieldType) := [(g.2.2.1.1, .int), (g.2.2.1.2.1, .boolean), (g.2.2.1.2.2.1, .long), (g.2.2.1.2.2.2, .object "PartitionPoset$State")]
def zw_W (g : zw_G) (sh : zw_S) (h : zw_H) (H : Heap) : Prop := H.size = g.1 + sh.length ∧ va_P g.2.2.2 vwCl (zw_ws g sh h) H
def zw_K (g : zw_G) (U : State) : Prop := va_K g.2.2.2 vwCl (zw_tys g) U ∧ (∀ w ∈ zw_nest, va_Nw w U) ∧ va_AO "PartitionPoset$State" U
def zw_T (g : zw_G) (U : State) (H : Heap) : Prop := va_Z RX7 "SMALLER" "[I" (.ref g.2.1.1) (fun q => g.1 ≤ q) U H ∧ va_T .int g.2.1.1 15 (fun j => .int (zw_small j)) (fun q => g.1 ≤ q) U H ∧ va_Z RX7 "GREATER" "[I" (.ref g.2.1.2.1) (fun q => g.1 ≤ q) U H ∧ va_T .int g.2.1.2.1 15 (fun j => .int (zw_great j)) (fun q => g.1 ≤ q) U H
def zw_C (M : zw_M) (d mc ms : Nat) (g : zw_G) (p : Program) (R : Room) (s : State) (m : MethodId) (args : Array Value) (meth : Method) (c : Code) : Prop :=
  p.tables.exec = Jvm.exec ∧ c.code = M.2.1 ∧ meth.sig.returnType = M.2.2.2.1 ∧ c.maxLocals = M.2.2.1 ∧ s.vm.findClass M.1.cls = some m.cls ∧ (∀ w ∈ zw_ts, w.before args s = true) ∧ meth.locks = false ∧ meth.name = M.1.name ∧ zw_K g s ∧ zw_T g s s.heap ∧ (g.1 ≤ s.heap.size ∧ (M.2.2.2.2.1 = 0 ∨ (va_X g.2.1.2.2 (M.2.2.2.2.1 - 1) M.2.2.2.2.2 s s.heap ∧ g.2.1.2.2 < s.heap.size ∧ g.2.1.2.2 < g.1))) ∧ d ≤ R.frames ∧ 30 * d ≤ R.locals ∧ mc ≤ R.cells ∧ ms ≤ R.slots
def zw_lv (g : zw_G) (lv : List (Nat × Value)) : List (Nat × Value) := lv.map (fun q => (q.1, zw_tr g q.2))
/-- how a method may end with r at pc -/
def zw_rt (M : zw_M) (pc : Nat) : Option Value → Prop
  | none => decode M.2.1 pc = .ok (.return_, 1) ∧ M.2.2.2.1 = none
  | some (.int v) => decode M.2.1 pc = .ok (.ireturn, 1) ∧ ∃ ty, M.2.2.2.1 = some ty ∧ narrow ty (.int v) = .int v
  | some (.long _) => decode M.2.1 pc = .ok (.lreturn, 1) ∧ M.2.2.2.1 = some .long
  | _ => False
def zw (M : zw_M) (d mc ms : Nat) (Q : Option Value → zw_S → zw_H → Prop) (pc : Nat) (lv : List (Nat × Value)) (st : List Value) (sh : zw_S) (h : zw_H) (ck cs : Nat) : Prop :=
  ∀ (p : Program) (l : Launch) (e : Env) (R : Room) (s : State) (m : MethodId) (args : Array Value) (below : List Frame) (meth : Method) (c : Code) (g : zw_G) (H : Heap) (locs : List Loc) (ls : Array Slot) (Z : State → Prop),
    zw_C M d mc ms g p R s m args meth c → zw_W g sh h H → va_S (fun q => g.1 ≤ q) s.heap H locs → lv_has ls M.2.2.1 (zw_lv g lv) →
    (∀ (r : Option Value) (sh' : zw_S) (h' : zw_H) (H' : Heap) (locs' : List Loc) (ls' : Array Slot) (pcr : Nat), Q r sh' h' → zw_W g sh' h' H' → va_S (fun q => g.1 ≤ q) s.heap H' locs' → zw_rt M pcr r →
      W p l e R s m args below meth c H' locs' mc ms Z (F0 m pcr ls' (r.toList.map (zw_tr g)))) →
    W p l e R s m args below meth c H locs ck cs Z (F0 m pc ls (st.map (zw_tr g)))
theorem zw_f1 (g : zw_G) (i : Nat) (lv : List (Nat × Value)) : (zw_lv g lv).filter (fun q => !(q.1 == i) && !(q.1 + 1 == i && q.2.category == 2)) = zw_lv g (lv.filter (fun q => !(q.1 == i) && !(q.1 + 1 == i && q.2.category == 2))) := by
  unfold zw_lv
  rw [List.filter_map]
  congr 1
  exact List.filter_congr (fun q _ => by simp only [Function.comp, zw_tr_cat])
theorem zw_f2 (g : zw_G) (i : Nat) (lv : List (Nat × Value)) : (zw_lv g lv).filter (fun q => !(q.1 == i) && (!(q.1 == i + 1) && !(q.1 + 1 == i && q.2.category == 2))) = zw_lv g (lv.filter (fun q => !(q.1 == i) && (!(q.1 == i + 1) && !(q.1 + 1 == i && q.2.category == 2)))) := by
  unfold zw_lv
  rw [List.filter_map]
  congr 1
  exact List.filter_congr (fun q _ => by simp only [Function.comp, zw_tr_cat])
section ZW
variable {M : zw_M} {d mc ms : Nat} {Q : Option Value → zw_S → zw_H → Prop} {pc np : Nat} {lv : List (Nat × Value)} {st : List Value} {sh : zw_S} {h : zw_H} {ck cs : Nat}
theorem zw.to {lv' : List (Nat × Value)} {st' : List Value} {h' : zw_H} (k : zw M d mc ms Q pc lv' st' sh h' ck cs) (hl : lv = lv') (hs : st = st') (hh : h = h') : zw M d mc ms Q pc lv st sh h ck cs := by subst hl hs hh; exact k
theorem zw.post {Q' : Option Value → zw_S → zw_H → Prop} (k : zw M d mc ms Q' pc lv st sh h ck cs) (hq : ∀ r s' h', Q' r s' h' → Q r s' h') : zw M d mc ms Q pc lv st sh h ck cs :=
  fun p l e R s m args below meth c g H locs ls Z C hW hS hl hZ => k p l e R s m args below meth c g H locs ls Z C hW hS hl (fun r sh' h' H' locs' ls' pcr hq' => hZ r sh' h' H' locs' ls' pcr (hq r sh' h' hq'))
/-- fewer locals, in any order: by their places -/
theorem zw.sub {lv' : List (Nat × Value)} (is : List Nat) (hl : lv_pick lv is = lv') (k : zw M d mc ms Q pc lv' st sh h ck cs) : zw M d mc ms Q pc lv st sh h ck cs := by
  intro p l e R s m args below meth c g H locs ls Z C hW hS hL hZ
  refine k p l e R s m args below meth c g H locs ls Z C hW hS ⟨hL.1, hL.2.1, fun q hq => ?_⟩ hZ
  subst hl
  obtain ⟨q0, h0, rfl⟩ := List.mem_map.mp hq
  obtain ⟨i, -, hi⟩ := List.mem_filterMap.mp h0
  exact hL.2.2 _ (List.mem_map.mpr ⟨q0, List.mem_of_getElem? hi, rfl⟩)

theorem zw_iconst {n : Int} {v : Int32} (hd : decode M.2.1 pc = .ok (.iconst n, 1)) (hv : Int32.ofInt n = v) (hn : pc + 1 = np) (k : zw M d mc ms Q np lv (.int v :: st) sh h ck cs) : zw M d mc ms Q pc lv (st) sh h ck cs := by
  subst hn
  intro p l e R s m args below meth c g H locs ls Z C hW hS hl hZ
  exact lv_iconst C.1 C.2.1 hd hv (k p l e R s m args below meth c g H locs ls Z C hW hS hl hZ)
theorem zw_bipush {n : Int} {v : Int32} (hd : decode M.2.1 pc = .ok (.bipush n, 2)) (hv : (Int8.ofInt n).toInt32 = v) (hn : pc + 2 = np) (k : zw M d mc ms Q np lv (.int v :: st) sh h ck cs) : zw M d mc ms Q pc lv (st) sh h ck cs := by
  subst hn
  intro p l e R s m args below meth c g H locs ls Z C hW hS hl hZ
  exact lv_bipush C.1 C.2.1 hd hv (k p l e R s m args below meth c g H locs ls Z C hW hS hl hZ)
theorem zw_sipush {n : Int} {v : Int32} (hd : decode M.2.1 pc = .ok (.sipush n, 3)) (hv : (Int16.ofInt n).toInt32 = v) (hn : pc + 3 = np) (k : zw M d mc ms Q np lv (.int v :: st) sh h ck cs) : zw M d mc ms Q pc lv (st) sh h ck cs := by
  subst hn
  intro p l e R s m args below meth c g H locs ls Z C hW hS hl hZ
  exact lv_sipush C.1 C.2.1 hd hv (k p l e R s m args below meth c g H locs ls Z C hW hS hl hZ)
theorem zw_lconst {n : Fin 2} {v : Int64} (hd : decode M.2.1 pc = .ok (.lconst n, 1)) (hv : Int64.ofNat (n : Nat) = v) (hn : pc + 1 = np) (k : zw M d mc ms Q np lv (.long v :: st) sh h ck cs) : zw M d mc ms Q pc lv (st) sh h ck cs := by
  subst hn
  intro p l e R s m args below meth c g H locs ls Z C hW hS hl hZ
  exact lv_lconst C.1 C.2.1 hd hv (k p l e R s m args below meth c g H locs ls Z C hW hS hl hZ)
theorem zw_ldc {i : Nat} {v : Int32} (hw : Cond.constant M.1.cls i v ∈ zw_ts) (hd : decode M.2.1 pc = .ok (.ldc i, 2)) (hn : pc + 2 = np) (k : zw M d mc ms Q np lv (.int v :: st) sh h ck cs) : zw M d mc ms Q pc lv (st) sh h ck cs := by
  subst hn
  intro p l e R s m args below meth c g H locs ls Z C hW hS hl hZ
  exact lv_ldc C.1 C.2.1 C.2.2.2.2.1 (C.2.2.2.2.2.1 _ hw) hd (k p l e R s m args below meth c g H locs ls Z C hW hS hl hZ)
theorem zw_ldc_w {i : Nat} {v : Int32} (hw : Cond.constant M.1.cls i v ∈ zw_ts) (hd : decode M.2.1 pc = .ok (.ldc_w i, 3)) (hn : pc + 3 = np) (k : zw M d mc ms Q np lv (.int v :: st) sh h ck cs) : zw M d mc ms Q pc lv (st) sh h ck cs := by
  subst hn
  intro p l e R s m args below meth c g H locs ls Z C hW hS hl hZ
  exact lv_ldcw C.1 C.2.1 C.2.2.2.2.1 (C.2.2.2.2.2.1 _ hw) hd (k p l e R s m args below meth c g H locs ls Z C hW hS hl hZ)
theorem zw_ldc2 {i : Nat} {v : Int64} (hw : Cond.constantLong M.1.cls i v ∈ zw_ts) (hd : decode M.2.1 pc = .ok (.ldc2_w i, 3)) (hn : pc + 3 = np) (k : zw M d mc ms Q np lv (.long v :: st) sh h ck cs) : zw M d mc ms Q pc lv (st) sh h ck cs := by
  subst hn
  intro p l e R s m args below meth c g H locs ls Z C hW hS hl hZ
  exact lv_ldc2 C.1 C.2.1 C.2.2.2.2.1 (C.2.2.2.2.2.1 _ hw) hd (k p l e R s m args below meth c g H locs ls Z C hW hS hl hZ)
theorem zw_iload_n {j : Fin 4} {i : Nat} {x : Int32} (q : Nat) (hd : decode M.2.1 pc = .ok (.iload_n j, 1)) (hi : (j : Nat) = i) (hk : lv[q]? = some (i, .int x)) (hn : pc + 1 = np) (k : zw M d mc ms Q np lv (.int x :: st) sh h ck cs) : zw M d mc ms Q pc lv (st) sh h ck cs := by
  subst hn
  intro p l e R s m args below meth c g H locs ls Z C hW hS hl hZ
  exact lv_iload_n C.1 C.2.1 hd hi (hl.2.2 _ (List.mem_map.mpr ⟨_, List.mem_of_getElem? hk, rfl⟩)) (k p l e R s m args below meth c g H locs ls Z C hW hS hl hZ)
theorem zw_iload {i : Nat} {x : Int32} (q : Nat) (hd : decode M.2.1 pc = .ok (.iload i, 2)) (hk : lv[q]? = some (i, .int x)) (hn : pc + 2 = np) (k : zw M d mc ms Q np lv (.int x :: st) sh h ck cs) : zw M d mc ms Q pc lv (st) sh h ck cs := by
  subst hn
  intro p l e R s m args below meth c g H locs ls Z C hW hS hl hZ
  exact lv_iload C.1 C.2.1 hd (hl.2.2 _ (List.mem_map.mpr ⟨_, List.mem_of_getElem? hk, rfl⟩)) (k p l e R s m args below meth c g H locs ls Z C hW hS hl hZ)
theorem zw_lload_n {j : Fin 4} {i : Nat} {x : Int64} (q : Nat) (hd : decode M.2.1 pc = .ok (.lload_n j, 1)) (hi : (j : Nat) = i) (hk : lv[q]? = some (i, .long x)) (hn : pc + 1 = np) (k : zw M d mc ms Q np lv (.long x :: st) sh h ck cs) : zw M d mc ms Q pc lv (st) sh h ck cs := by
  subst hn
  intro p l e R s m args below meth c g H locs ls Z C hW hS hl hZ
  exact lv_lload_n C.1 C.2.1 hd hi (hl.2.2 _ (List.mem_map.mpr ⟨_, List.mem_of_getElem? hk, rfl⟩)) (k p l e R s m args below meth c g H locs ls Z C hW hS hl hZ)
theorem zw_lload {i : Nat} {x : Int64} (q : Nat) (hd : decode M.2.1 pc = .ok (.lload i, 2)) (hk : lv[q]? = some (i, .long x)) (hn : pc + 2 = np) (k : zw M d mc ms Q np lv (.long x :: st) sh h ck cs) : zw M d mc ms Q pc lv (st) sh h ck cs := by
  subst hn
  intro p l e R s m args below meth c g H locs ls Z C hW hS hl hZ
  exact lv_lload C.1 C.2.1 hd (hl.2.2 _ (List.mem_map.mpr ⟨_, List.mem_of_getElem? hk, rfl⟩)) (k p l e R s m args below meth c g H locs ls Z C hW hS hl hZ)
theorem zw_aload_n {j : Fin 4} {i : Nat} {x : Nat} (q : Nat) (hd : decode M.2.1 pc = .ok (.aload_n j, 1)) (hi : (j : Nat) = i) (hk : lv[q]? = some (i, .ref x)) (hn : pc + 1 = np) (k : zw M d mc ms Q np lv (.ref x :: st) sh h ck cs) : zw M d mc ms Q pc lv (st) sh h ck cs := by
  subst hn
  intro p l e R s m args below meth c g H locs ls Z C hW hS hl hZ
  exact lv_aload_n C.1 C.2.1 hd hi (hl.2.2 _ (List.mem_map.mpr ⟨_, List.mem_of_getElem? hk, rfl⟩)) (k p l e R s m args below meth c g H locs ls Z C hW hS hl hZ)
theorem zw_aload {i : Nat} {x : Nat} (q : Nat) (hd : decode M.2.1 pc = .ok (.aload i, 2)) (hk : lv[q]? = some (i, .ref x)) (hn : pc + 2 = np) (k : zw M d mc ms Q np lv (.ref x :: st) sh h ck cs) : zw M d mc ms Q pc lv (st) sh h ck cs := by
  subst hn
  intro p l e R s m args below meth c g H locs ls Z C hW hS hl hZ
  exact lv_aload C.1 C.2.1 hd (hl.2.2 _ (List.mem_map.mpr ⟨_, List.mem_of_getElem? hk, rfl⟩)) (k p l e R s m args below meth c g H locs ls Z C hW hS hl hZ)
theorem zw_aload_nT {j : Fin 4} {i : Nat} {x : Nat} (q : Nat) (hd : decode M.2.1 pc = .ok (.aload_n j, 1)) (hi : (j : Nat) = i) (hk : lv[q]? = some (i, .retAddr x)) (hn : pc + 1 = np) (k : zw M d mc ms Q np lv (.retAddr x :: st) sh h ck cs) : zw M d mc ms Q pc lv (st) sh h ck cs := by
  subst hn
  intro p l e R s m args below meth c g H locs ls Z C hW hS hl hZ
  exact lv_aload_n C.1 C.2.1 hd hi (hl.2.2 _ (List.mem_map.mpr ⟨_, List.mem_of_getElem? hk, rfl⟩)) (k p l e R s m args below meth c g H locs ls Z C hW hS hl hZ)
theorem zw_istore_n {j : Fin 4} {i : Nat} {x : Int32} (hd : decode M.2.1 pc = .ok (.istore_n j, 1)) (hi : (j : Nat) = i) {lv' : List (Nat × Value)} (hb : i < M.2.2.1) (hl' : (i, .int x) :: lv.filter (fun q => !(q.1 == i) && !(q.1 + 1 == i && q.2.category == 2)) = lv') (hn : pc + 1 = np) (k : zw M d mc ms Q np lv' st sh h ck cs) : zw M d mc ms Q pc lv (.int x :: st) sh h ck cs := by
  subst hn hl'
  intro p l e R s m args below meth c g H locs ls Z C hW hS hl hZ
  refine lv_istore_n C.1 C.2.1 hd hi hl hb rfl (fun ls' h' => k p l e R s m args below meth c g H locs ls' Z C hW hS ?_ hZ)
  exact (congrArg (fun z => lv_has ls' M.2.2.1 ((i, zw_tr g (.int x)) :: z)) (zw_f1 g i lv)).mp h'
theorem zw_istore {i : Nat} {x : Int32} (hd : decode M.2.1 pc = .ok (.istore i, 2)) {lv' : List (Nat × Value)} (hb : i < M.2.2.1) (hl' : (i, .int x) :: lv.filter (fun q => !(q.1 == i) && !(q.1 + 1 == i && q.2.category == 2)) = lv') (hn : pc + 2 = np) (k : zw M d mc ms Q np lv' st sh h ck cs) : zw M d mc ms Q pc lv (.int x :: st) sh h ck cs := by
  subst hn hl'
  intro p l e R s m args below meth c g H locs ls Z C hW hS hl hZ
  refine lv_istore C.1 C.2.1 hd hl hb rfl (fun ls' h' => k p l e R s m args below meth c g H locs ls' Z C hW hS ?_ hZ)
  exact (congrArg (fun z => lv_has ls' M.2.2.1 ((i, zw_tr g (.int x)) :: z)) (zw_f1 g i lv)).mp h'
theorem zw_lstore_n {j : Fin 4} {i : Nat} {x : Int64} (hd : decode M.2.1 pc = .ok (.lstore_n j, 1)) (hi : (j : Nat) = i) {lv' : List (Nat × Value)} (hb : i + 1 < M.2.2.1) (hl' : (i, .long x) :: lv.filter (fun q => !(q.1 == i) && (!(q.1 == i + 1) && !(q.1 + 1 == i && q.2.category == 2))) = lv') (hn : pc + 1 = np) (k : zw M d mc ms Q np lv' st sh h ck cs) : zw M d mc ms Q pc lv (.long x :: st) sh h ck cs := by
  subst hn hl'
  intro p l e R s m args below meth c g H locs ls Z C hW hS hl hZ
  refine lv_lstore_n C.1 C.2.1 hd hi hl hb rfl (fun ls' h' => k p l e R s m args below meth c g H locs ls' Z C hW hS ?_ hZ)
  exact (congrArg (fun z => lv_has ls' M.2.2.1 ((i, zw_tr g (.long x)) :: z)) (zw_f2 g i lv)).mp h'
theorem zw_lstore {i : Nat} {x : Int64} (hd : decode M.2.1 pc = .ok (.lstore i, 2)) {lv' : List (Nat × Value)} (hb : i + 1 < M.2.2.1) (hl' : (i, .long x) :: lv.filter (fun q => !(q.1 == i) && (!(q.1 == i + 1) && !(q.1 + 1 == i && q.2.category == 2))) = lv') (hn : pc + 2 = np) (k : zw M d mc ms Q np lv' st sh h ck cs) : zw M d mc ms Q pc lv (.long x :: st) sh h ck cs := by
  subst hn hl'
  intro p l e R s m args below meth c g H locs ls Z C hW hS hl hZ
  refine lv_lstore C.1 C.2.1 hd hl hb rfl (fun ls' h' => k p l e R s m args below meth c g H locs ls' Z C hW hS ?_ hZ)
  exact (congrArg (fun z => lv_has ls' M.2.2.1 ((i, zw_tr g (.long x)) :: z)) (zw_f2 g i lv)).mp h'
theorem zw_astore_n {j : Fin 4} {i : Nat} {x : Nat} (hd : decode M.2.1 pc = .ok (.astore_n j, 1)) (hi : (j : Nat) = i) {lv' : List (Nat × Value)} (hb : i < M.2.2.1) (hl' : (i, .ref x) :: lv.filter (fun q => !(q.1 == i) && !(q.1 + 1 == i && q.2.category == 2)) = lv') (hn : pc + 1 = np) (k : zw M d mc ms Q np lv' st sh h ck cs) : zw M d mc ms Q pc lv (.ref x :: st) sh h ck cs := by
  subst hn hl'
  intro p l e R s m args below meth c g H locs ls Z C hW hS hl hZ
  refine lv_astore_n C.1 C.2.1 hd hi hl hb rfl (fun ls' h' => k p l e R s m args below meth c g H locs ls' Z C hW hS ?_ hZ)
  exact (congrArg (fun z => lv_has ls' M.2.2.1 ((i, zw_tr g (.ref x)) :: z)) (zw_f1 g i lv)).mp h'
theorem zw_iinc {i : Nat} {n : Int} {x v : Int32} (q : Nat) {lv' : List (Nat × Value)} (hd : decode M.2.1 pc = .ok (.iinc i n, 3)) (hk : lv[q]? = some (i, .int x)) (hv : x + Int32.ofInt n = v) (hb : i < M.2.2.1) (hl' : (i, .int v) :: lv.filter (fun q => !(q.1 == i) && !(q.1 + 1 == i && q.2.category == 2)) = lv') (hn : pc + 3 = np) (k : zw M d mc ms Q np lv' st sh h ck cs) : zw M d mc ms Q pc lv st sh h ck cs := by
  subst hn hl'
  intro p l e R s m args below meth c g H locs ls Z C hW hS hl hZ
  refine lv_iinc (k := q) C.1 C.2.1 hd hl (by unfold zw_lv; rw [List.getElem?_map, hk]; rfl) hv hb rfl (fun ls' h' => k p l e R s m args below meth c g H locs ls' Z C hW hS ?_ hZ)
  exact (congrArg (fun z => lv_has ls' M.2.2.1 ((i, zw_tr g (.int v)) :: z)) (zw_f1 g i lv)).mp h'

theorem zw_iadd {x y : Int32} (hd : decode M.2.1 pc = .ok (.iadd, 1)) (hn : pc + 1 = np) (k : zw M d mc ms Q np lv (.int (x + y) :: st) sh h ck cs) : zw M d mc ms Q pc lv (.int y :: .int x :: st) sh h ck cs := by
  subst hn
  intro p l e R s m args below meth c g H locs ls Z C hW hS hl hZ
  exact lv_iadd C.1 C.2.1 hd (k p l e R s m args below meth c g H locs ls Z C hW hS hl hZ)
theorem zw_isub {x y : Int32} (hd : decode M.2.1 pc = .ok (.isub, 1)) (hn : pc + 1 = np) (k : zw M d mc ms Q np lv (.int (x - y) :: st) sh h ck cs) : zw M d mc ms Q pc lv (.int y :: .int x :: st) sh h ck cs := by
  subst hn
  intro p l e R s m args below meth c g H locs ls Z C hW hS hl hZ
  exact lv_isub C.1 C.2.1 hd (k p l e R s m args below meth c g H locs ls Z C hW hS hl hZ)
theorem zw_imul {x y : Int32} (hd : decode M.2.1 pc = .ok (.imul, 1)) (hn : pc + 1 = np) (k : zw M d mc ms Q np lv (.int (x * y) :: st) sh h ck cs) : zw M d mc ms Q pc lv (.int y :: .int x :: st) sh h ck cs := by
  subst hn
  intro p l e R s m args below meth c g H locs ls Z C hW hS hl hZ
  exact lv_imul C.1 C.2.1 hd (k p l e R s m args below meth c g H locs ls Z C hW hS hl hZ)
theorem zw_iand {x y : Int32} (hd : decode M.2.1 pc = .ok (.iand, 1)) (hn : pc + 1 = np) (k : zw M d mc ms Q np lv (.int (x &&& y) :: st) sh h ck cs) : zw M d mc ms Q pc lv (.int y :: .int x :: st) sh h ck cs := by
  subst hn
  intro p l e R s m args below meth c g H locs ls Z C hW hS hl hZ
  exact lv_iand C.1 C.2.1 hd (k p l e R s m args below meth c g H locs ls Z C hW hS hl hZ)
theorem zw_ior {x y : Int32} (hd : decode M.2.1 pc = .ok (.ior, 1)) (hn : pc + 1 = np) (k : zw M d mc ms Q np lv (.int (x ||| y) :: st) sh h ck cs) : zw M d mc ms Q pc lv (.int y :: .int x :: st) sh h ck cs := by
  subst hn
  intro p l e R s m args below meth c g H locs ls Z C hW hS hl hZ
  exact lv_ior C.1 C.2.1 hd (k p l e R s m args below meth c g H locs ls Z C hW hS hl hZ)
theorem zw_ixor {x y : Int32} (hd : decode M.2.1 pc = .ok (.ixor, 1)) (hn : pc + 1 = np) (k : zw M d mc ms Q np lv (.int (x ^^^ y) :: st) sh h ck cs) : zw M d mc ms Q pc lv (.int y :: .int x :: st) sh h ck cs := by
  subst hn
  intro p l e R s m args below meth c g H locs ls Z C hW hS hl hZ
  exact lv_ixor C.1 C.2.1 hd (k p l e R s m args below meth c g H locs ls Z C hW hS hl hZ)
theorem zw_ishl {x y : Int32} (hd : decode M.2.1 pc = .ok (.ishl, 1)) (hn : pc + 1 = np) (k : zw M d mc ms Q np lv (.int (x <<< (y &&& 31)) :: st) sh h ck cs) : zw M d mc ms Q pc lv (.int y :: .int x :: st) sh h ck cs := by
  subst hn
  intro p l e R s m args below meth c g H locs ls Z C hW hS hl hZ
  exact lv_ishl C.1 C.2.1 hd (k p l e R s m args below meth c g H locs ls Z C hW hS hl hZ)
theorem zw_ishr {x y : Int32} (hd : decode M.2.1 pc = .ok (.ishr, 1)) (hn : pc + 1 = np) (k : zw M d mc ms Q np lv (.int (x >>> (y &&& 31)) :: st) sh h ck cs) : zw M d mc ms Q pc lv (.int y :: .int x :: st) sh h ck cs := by
  subst hn
  intro p l e R s m args below meth c g H locs ls Z C hW hS hl hZ
  exact lv_ishr C.1 C.2.1 hd (k p l e R s m args below meth c g H locs ls Z C hW hS hl hZ)
theorem zw_ladd {x y : Int64} (hd : decode M.2.1 pc = .ok (.ladd, 1)) (hn : pc + 1 = np) (k : zw M d mc ms Q np lv (.long (x + y) :: st) sh h ck cs) : zw M d mc ms Q pc lv (.long y :: .long x :: st) sh h ck cs := by
  subst hn
  intro p l e R s m args below meth c g H locs ls Z C hW hS hl hZ
  exact lv_ladd C.1 C.2.1 hd (k p l e R s m args below meth c g H locs ls Z C hW hS hl hZ)
theorem zw_lsub {x y : Int64} (hd : decode M.2.1 pc = .ok (.lsub, 1)) (hn : pc + 1 = np) (k : zw M d mc ms Q np lv (.long (x - y) :: st) sh h ck cs) : zw M d mc ms Q pc lv (.long y :: .long x :: st) sh h ck cs := by
  subst hn
  intro p l e R s m args below meth c g H locs ls Z C hW hS hl hZ
  exact lv_lsub C.1 C.2.1 hd (k p l e R s m args below meth c g H locs ls Z C hW hS hl hZ)
theorem zw_lmul {x y : Int64} (hd : decode M.2.1 pc = .ok (.lmul, 1)) (hn : pc + 1 = np) (k : zw M d mc ms Q np lv (.long (x * y) :: st) sh h ck cs) : zw M d mc ms Q pc lv (.long y :: .long x :: st) sh h ck cs := by
  subst hn
  intro p l e R s m args below meth c g H locs ls Z C hW hS hl hZ
  exact lv_lmul C.1 C.2.1 hd (k p l e R s m args below meth c g H locs ls Z C hW hS hl hZ)
theorem zw_lneg {x : Int64} (hd : decode M.2.1 pc = .ok (.lneg, 1)) (hn : pc + 1 = np) (k : zw M d mc ms Q np lv (.long (-x) :: st) sh h ck cs) : zw M d mc ms Q pc lv (.long x :: st) sh h ck cs := by
  subst hn
  intro p l e R s m args below meth c g H locs ls Z C hW hS hl hZ
  exact lv_lneg C.1 C.2.1 hd (k p l e R s m args below meth c g H locs ls Z C hW hS hl hZ)
theorem zw_lcmp {x y : Int64} (hd : decode M.2.1 pc = .ok (.lcmp, 1)) (hn : pc + 1 = np) (k : zw M d mc ms Q np lv (.int (lg_cmp x y) :: st) sh h ck cs) : zw M d mc ms Q pc lv (.long y :: .long x :: st) sh h ck cs := by
  subst hn
  intro p l e R s m args below meth c g H locs ls Z C hW hS hl hZ
  exact W.lcmp C.1 C.2.1 hd (k p l e R s m args below meth c g H locs ls Z C hW hS hl hZ)
theorem zw_idiv {x y : Int32} (hd : decode M.2.1 pc = .ok (.idiv, 1)) (hy : ¬ y = 0) (hn : pc + 1 = np) (k : zw M d mc ms Q np lv (.int (x / y) :: st) sh h ck cs) : zw M d mc ms Q pc lv (.int y :: .int x :: st) sh h ck cs := by
  subst hn
  intro p l e R s m args below meth c g H locs ls Z C hW hS hl hZ
  exact lv_idiv C.1 C.2.1 hd hy (k p l e R s m args below meth c g H locs ls Z C hW hS hl hZ)
theorem zw_irem {x y : Int32} (hd : decode M.2.1 pc = .ok (.irem, 1)) (hy : ¬ y = 0) (hn : pc + 1 = np) (k : zw M d mc ms Q np lv (.int (x - x / y * y) :: st) sh h ck cs) : zw M d mc ms Q pc lv (.int y :: .int x :: st) sh h ck cs := by
  subst hn
  intro p l e R s m args below meth c g H locs ls Z C hW hS hl hZ
  exact lv_irem C.1 C.2.1 hd hy (k p l e R s m args below meth c g H locs ls Z C hW hS hl hZ)
theorem zw_iushr {x y : Int32} (hd : decode M.2.1 pc = .ok (.iushr, 1)) (hn : pc + 1 = np) (k : zw M d mc ms Q np lv (.int ((x.toUInt32 >>> (y.toUInt32 &&& Int32.toUInt32 31)).toInt32) :: st) sh h ck cs) : zw M d mc ms Q pc lv (.int y :: .int x :: st) sh h ck cs := by
  subst hn
  intro p l e R s m args below meth c g H locs ls Z C hW hS hl hZ
  exact lv_iushr C.1 C.2.1 hd rfl (k p l e R s m args below meth c g H locs ls Z C hW hS hl hZ)
theorem zw_i2l {x : Int32} (hd : decode M.2.1 pc = .ok (.i2l, 1)) (hn : pc + 1 = np) (k : zw M d mc ms Q np lv (.long x.toInt64 :: st) sh h ck cs) : zw M d mc ms Q pc lv (.int x :: st) sh h ck cs := by
  subst hn
  intro p l e R s m args below meth c g H locs ls Z C hW hS hl hZ
  exact lv_i2l C.1 C.2.1 hd rfl (k p l e R s m args below meth c g H locs ls Z C hW hS hl hZ)
theorem zw_l2i {x : Int64} (hd : decode M.2.1 pc = .ok (.l2i, 1)) (hn : pc + 1 = np) (k : zw M d mc ms Q np lv (.int x.toInt32 :: st) sh h ck cs) : zw M d mc ms Q pc lv (.long x :: st) sh h ck cs := by
  subst hn
  intro p l e R s m args below meth c g H locs ls Z C hW hS hl hZ
  exact lv_l2i C.1 C.2.1 hd rfl (k p l e R s m args below meth c g H locs ls Z C hW hS hl hZ)
theorem zw_dup {v : Value} (hd : decode M.2.1 pc = .ok (.dup, 1)) (h1 : v.category = 1) (hn : pc + 1 = np) (k : zw M d mc ms Q np lv (v :: v :: st) sh h ck cs) : zw M d mc ms Q pc lv (v :: st) sh h ck cs := by
  subst hn
  intro p l e R s m args below meth c g H locs ls Z C hW hS hl hZ
  exact lv_dup C.1 C.2.1 hd (by rw [zw_tr_cat]; exact h1) (k p l e R s m args below meth c g H locs ls Z C hW hS hl hZ)
theorem zw_pop {v : Value} (hd : decode M.2.1 pc = .ok (.pop, 1)) (h1 : v.category = 1) (hn : pc + 1 = np) (k : zw M d mc ms Q np lv (st) sh h ck cs) : zw M d mc ms Q pc lv (v :: st) sh h ck cs := by
  subst hn
  intro p l e R s m args below meth c g H locs ls Z C hW hS hl hZ
  exact lv_pop C.1 C.2.1 hd (by rw [zw_tr_cat]; exact h1) (k p l e R s m args below meth c g H locs ls Z C hW hS hl hZ)
theorem zw_dup2 {v u : Value} (hd : decode M.2.1 pc = .ok (.dup2, 1)) (h1 : v.category = 1) (h2 : u.category = 1) (hn : pc + 1 = np) (k : zw M d mc ms Q np lv (v :: u :: v :: u :: st) sh h ck cs) : zw M d mc ms Q pc lv (v :: u :: st) sh h ck cs := by
  subst hn
  intro p l e R s m args below meth c g H locs ls Z C hW hS hl hZ
  exact lv_dup2_11 C.1 C.2.1 hd (by rw [zw_tr_cat]; exact h1) (by rw [zw_tr_cat]; exact h2) (k p l e R s m args below meth c g H locs ls Z C hW hS hl hZ)
theorem zw_goto {off : Int} (hd : decode M.2.1 pc = .ok (.goto off, 3)) (ht : (pc : Int) + off = (np : Int)) (k : zw M d mc ms Q np lv st sh h ck cs) : zw M d mc ms Q pc lv st sh h ck cs := by
  intro p l e R s m args below meth c g H locs ls Z C hW hS hl hZ
  exact lv_goto C.1 C.2.1 hd ht (k p l e R s m args below meth c g H locs ls Z C hW hS hl hZ)
theorem zw_if_eq {x : Int32} {off : Int} {tg : Nat} (hd : decode M.2.1 pc = .ok (.ifCond .eq off, 3)) (ht : (pc : Int) + off = (tg : Int)) (hn : pc + 3 = np) (kt : x = 0 → zw M d mc ms Q tg lv st sh h ck cs) (kf : ¬ x = 0 → zw M d mc ms Q np lv st sh h ck cs) : zw M d mc ms Q pc lv (.int x :: st) sh h ck cs := by
  subst hn
  intro p l e R s m args below meth c g H locs ls Z C hW hS hl hZ
  exact lv_if_eq C.1 C.2.1 hd ht (fun q => kt q p l e R s m args below meth c g H locs ls Z C hW hS hl hZ) (fun q => kf q p l e R s m args below meth c g H locs ls Z C hW hS hl hZ)
theorem zw_icmp_eq {x y : Int32} {off : Int} {tg : Nat} (hd : decode M.2.1 pc = .ok (.if_icmp .eq off, 3)) (ht : (pc : Int) + off = (tg : Int)) (hn : pc + 3 = np) (kt : x = y → zw M d mc ms Q tg lv st sh h ck cs) (kf : ¬ x = y → zw M d mc ms Q np lv st sh h ck cs) : zw M d mc ms Q pc lv (.int y :: .int x :: st) sh h ck cs := by
  subst hn
  intro p l e R s m args below meth c g H locs ls Z C hW hS hl hZ
  exact lv_icmp_eq C.1 C.2.1 hd ht (fun q => kt q p l e R s m args below meth c g H locs ls Z C hW hS hl hZ) (fun q => kf q p l e R s m args below meth c g H locs ls Z C hW hS hl hZ)
theorem zw_if_ne {x : Int32} {off : Int} {tg : Nat} (hd : decode M.2.1 pc = .ok (.ifCond .ne off, 3)) (ht : (pc : Int) + off = (tg : Int)) (hn : pc + 3 = np) (kt : ¬ x = 0 → zw M d mc ms Q tg lv st sh h ck cs) (kf : x = 0 → zw M d mc ms Q np lv st sh h ck cs) : zw M d mc ms Q pc lv (.int x :: st) sh h ck cs := by
  subst hn
  intro p l e R s m args below meth c g H locs ls Z C hW hS hl hZ
  exact lv_if_ne C.1 C.2.1 hd ht (fun q => kt q p l e R s m args below meth c g H locs ls Z C hW hS hl hZ) (fun q => kf q p l e R s m args below meth c g H locs ls Z C hW hS hl hZ)
theorem zw_icmp_ne {x y : Int32} {off : Int} {tg : Nat} (hd : decode M.2.1 pc = .ok (.if_icmp .ne off, 3)) (ht : (pc : Int) + off = (tg : Int)) (hn : pc + 3 = np) (kt : ¬ x = y → zw M d mc ms Q tg lv st sh h ck cs) (kf : x = y → zw M d mc ms Q np lv st sh h ck cs) : zw M d mc ms Q pc lv (.int y :: .int x :: st) sh h ck cs := by
  subst hn
  intro p l e R s m args below meth c g H locs ls Z C hW hS hl hZ
  exact lv_icmp_ne C.1 C.2.1 hd ht (fun q => kt q p l e R s m args below meth c g H locs ls Z C hW hS hl hZ) (fun q => kf q p l e R s m args below meth c g H locs ls Z C hW hS hl hZ)
theorem zw_if_lt {x : Int32} {off : Int} {tg : Nat} (hd : decode M.2.1 pc = .ok (.ifCond .lt off, 3)) (ht : (pc : Int) + off = (tg : Int)) (hn : pc + 3 = np) (kt : x < 0 → zw M d mc ms Q tg lv st sh h ck cs) (kf : ¬ x < 0 → zw M d mc ms Q np lv st sh h ck cs) : zw M d mc ms Q pc lv (.int x :: st) sh h ck cs := by
  subst hn
  intro p l e R s m args below meth c g H locs ls Z C hW hS hl hZ
  exact lv_if_lt C.1 C.2.1 hd ht (fun q => kt q p l e R s m args below meth c g H locs ls Z C hW hS hl hZ) (fun q => kf q p l e R s m args below meth c g H locs ls Z C hW hS hl hZ)
theorem zw_icmp_lt {x y : Int32} {off : Int} {tg : Nat} (hd : decode M.2.1 pc = .ok (.if_icmp .lt off, 3)) (ht : (pc : Int) + off = (tg : Int)) (hn : pc + 3 = np) (kt : x < y → zw M d mc ms Q tg lv st sh h ck cs) (kf : ¬ x < y → zw M d mc ms Q np lv st sh h ck cs) : zw M d mc ms Q pc lv (.int y :: .int x :: st) sh h ck cs := by
  subst hn
  intro p l e R s m args below meth c g H locs ls Z C hW hS hl hZ
  exact lv_icmp_lt C.1 C.2.1 hd ht (fun q => kt q p l e R s m args below meth c g H locs ls Z C hW hS hl hZ) (fun q => kf q p l e R s m args below meth c g H locs ls Z C hW hS hl hZ)
theorem zw_if_ge {x : Int32} {off : Int} {tg : Nat} (hd : decode M.2.1 pc = .ok (.ifCond .ge off, 3)) (ht : (pc : Int) + off = (tg : Int)) (hn : pc + 3 = np) (kt : 0 ≤ x → zw M d mc ms Q tg lv st sh h ck cs) (kf : ¬ 0 ≤ x → zw M d mc ms Q np lv st sh h ck cs) : zw M d mc ms Q pc lv (.int x :: st) sh h ck cs := by
  subst hn
  intro p l e R s m args below meth c g H locs ls Z C hW hS hl hZ
  exact lv_if_ge C.1 C.2.1 hd ht (fun q => kt q p l e R s m args below meth c g H locs ls Z C hW hS hl hZ) (fun q => kf q p l e R s m args below meth c g H locs ls Z C hW hS hl hZ)
theorem zw_icmp_ge {x y : Int32} {off : Int} {tg : Nat} (hd : decode M.2.1 pc = .ok (.if_icmp .ge off, 3)) (ht : (pc : Int) + off = (tg : Int)) (hn : pc + 3 = np) (kt : y ≤ x → zw M d mc ms Q tg lv st sh h ck cs) (kf : ¬ y ≤ x → zw M d mc ms Q np lv st sh h ck cs) : zw M d mc ms Q pc lv (.int y :: .int x :: st) sh h ck cs := by
  subst hn
  intro p l e R s m args below meth c g H locs ls Z C hW hS hl hZ
  exact lv_icmp_ge C.1 C.2.1 hd ht (fun q => kt q p l e R s m args below meth c g H locs ls Z C hW hS hl hZ) (fun q => kf q p l e R s m args below meth c g H locs ls Z C hW hS hl hZ)
theorem zw_if_gt {x : Int32} {off : Int} {tg : Nat} (hd : decode M.2.1 pc = .ok (.ifCond .gt off, 3)) (ht : (pc : Int) + off = (tg : Int)) (hn : pc + 3 = np) (kt : 0 < x → zw M d mc ms Q tg lv st sh h ck cs) (kf : ¬ 0 < x → zw M d mc ms Q np lv st sh h ck cs) : zw M d mc ms Q pc lv (.int x :: st) sh h ck cs := by
  subst hn
  intro p l e R s m args below meth c g H locs ls Z C hW hS hl hZ
  exact lv_if_gt C.1 C.2.1 hd ht (fun q => kt q p l e R s m args below meth c g H locs ls Z C hW hS hl hZ) (fun q => kf q p l e R s m args below meth c g H locs ls Z C hW hS hl hZ)
theorem zw_icmp_gt {x y : Int32} {off : Int} {tg : Nat} (hd : decode M.2.1 pc = .ok (.if_icmp .gt off, 3)) (ht : (pc : Int) + off = (tg : Int)) (hn : pc + 3 = np) (kt : y < x → zw M d mc ms Q tg lv st sh h ck cs) (kf : ¬ y < x → zw M d mc ms Q np lv st sh h ck cs) : zw M d mc ms Q pc lv (.int y :: .int x :: st) sh h ck cs := by
  subst hn
  intro p l e R s m args below meth c g H locs ls Z C hW hS hl hZ
  exact lv_icmp_gt C.1 C.2.1 hd ht (fun q => kt q p l e R s m args below meth c g H locs ls Z C hW hS hl hZ) (fun q => kf q p l e R s m args below meth c g H locs ls Z C hW hS hl hZ)
theorem zw_if_le {x : Int32} {off : Int} {tg : Nat} (hd : decode M.2.1 pc = .ok (.ifCond .le off, 3)) (ht : (pc : Int) + off = (tg : Int)) (hn : pc + 3 = np) (kt : x ≤ 0 → zw M d mc ms Q tg lv st sh h ck cs) (kf : ¬ x ≤ 0 → zw M d mc ms Q np lv st sh h ck cs) : zw M d mc ms Q pc lv (.int x :: st) sh h ck cs := by
  subst hn
  intro p l e R s m args below meth c g H locs ls Z C hW hS hl hZ
  exact lv_if_le C.1 C.2.1 hd ht (fun q => kt q p l e R s m args below meth c g H locs ls Z C hW hS hl hZ) (fun q => kf q p l e R s m args below meth c g H locs ls Z C hW hS hl hZ)
theorem zw_icmp_le {x y : Int32} {off : Int} {tg : Nat} (hd : decode M.2.1 pc = .ok (.if_icmp .le off, 3)) (ht : (pc : Int) + off = (tg : Int)) (hn : pc + 3 = np) (kt : x ≤ y → zw M d mc ms Q tg lv st sh h ck cs) (kf : ¬ x ≤ y → zw M d mc ms Q np lv st sh h ck cs) : zw M d mc ms Q pc lv (.int y :: .int x :: st) sh h ck cs := by
  subst hn
  intro p l e R s m args below meth c g H locs ls Z C hW hS hl hZ
  exact lv_icmp_le C.1 C.2.1 hd ht (fun q => kt q p l e R s m args below meth c g H locs ls Z C hW hS hl hZ) (fun q => kf q p l e R s m args below meth c g H locs ls Z C hW hS hl hZ)
theorem zw_tabOut {dflt lo hi : Int} {offs : Array Int} {len : Nat} {x : Int32} (hd : decode M.2.1 pc = .ok (.tableswitch dflt lo hi offs, len)) (hx : x.toInt < lo ∨ hi < x.toInt) (ht : (pc : Int) + dflt = (np : Int)) (k : zw M d mc ms Q np lv st sh h ck cs) : zw M d mc ms Q pc lv (.int x :: st) sh h ck cs := by
  intro p l e R s m args below meth c g H locs ls Z C hW hS hl hZ
  exact lv_tableOut C.1 C.2.1 hd hx ht (k p l e R s m args below meth c g H locs ls Z C hW hS hl hZ)
theorem zw_tabIn {dflt lo hi : Int} {offs : Array Int} {len : Nat} {x : Int32} {off : Int} (hd : decode M.2.1 pc = .ok (.tableswitch dflt lo hi offs, len)) (h1 : ¬ x.toInt < lo) (h2 : ¬ hi < x.toInt) (ho : offs[(x.toInt - lo).toNat]? = some off) (ht : (pc : Int) + off = (np : Int)) (k : zw M d mc ms Q np lv st sh h ck cs) : zw M d mc ms Q pc lv (.int x :: st) sh h ck cs := by
  intro p l e R s m args below meth c g H locs ls Z C hW hS hl hZ
  exact lv_tableIn C.1 C.2.1 hd h1 h2 ho ht (k p l e R s m args below meth c g H locs ls Z C hW hS hl hZ)
theorem zw_ireturn {x : Int32} {ty : FieldType} (hd : decode M.2.1 pc = .ok (.ireturn, 1)) (hr : M.2.2.2.1 = some ty) (hn : narrow ty (.int x) = .int x) (hk : ck ≤ mc) (hc : cs ≤ ms) (k : Q (some (.int x)) sh h) : zw M d mc ms Q pc lv [.int x] sh h ck cs := by
  intro p l e R s m args below meth c g H locs ls Z C hW hS hl hZ
  exact W.widen hk hc (hZ (some (.int x)) sh h H locs ls pc k hW hS ⟨hd, ty, hr, hn⟩)
theorem zw_lreturn {x : Int64} (hd : decode M.2.1 pc = .ok (.lreturn, 1)) (hr : M.2.2.2.1 = some .long) (hk : ck ≤ mc) (hc : cs ≤ ms) (k : Q (some (.long x)) sh h) : zw M d mc ms Q pc lv [.long x] sh h ck cs := by
  intro p l e R s m args below meth c g H locs ls Z C hW hS hl hZ
  exact W.widen hk hc (hZ (some (.long x)) sh h H locs ls pc k hW hS ⟨hd, hr⟩)
theorem zw_return (hd : decode M.2.1 pc = .ok (.return_, 1)) (hr : M.2.2.2.1 = none) (hk : ck ≤ mc) (hc : cs ≤ ms) (k : Q none sh h) : zw M d mc ms Q pc lv [] sh h ck cs := by
  intro p l e R s m args below meth c g H locs ls Z C hW hS hl hZ
  exact W.widen hk hc (hZ none sh h H locs ls pc k hW hS ⟨hd, hr⟩)
end ZW
