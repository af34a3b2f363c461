def zmax (x y : Int32) : Int32 := if x < y then y else x
def zmin (x y : Int32) : Int32 := if y < x then y else x
def zmaxL (x y : Int64) : Int64 := if y < x then x else y
theorem zx_ini : Cond.initialized "java/lang/Math" ∈ zw_ts := by decide +kernel
theorem zx_s1 : Cond.static Lib.Math.max.name ∈ zw_ts := by decide +kernel
theorem zx_c1 : Cond.code Lib.Math.max.name Lib.Math.max.code 2 (some .int) ∈ zw_ts := by decide +kernel
theorem zx_s2 : Cond.static Lib.Math.min.name ∈ zw_ts := by decide +kernel
theorem zx_c2 : Cond.code Lib.Math.min.name Lib.Math.min.code 2 (some .int) ∈ zw_ts := by decide +kernel
theorem zx_s3 : Cond.static Lib.MathLoose.max_long.x ∈ zw_ts := by decide +kernel
theorem zx_c3 : Cond.code Lib.MathLoose.max_long.x Lib.MathLoose.max_long.code 4 (some .long) ∈ zw_ts := by decide +kernel
section ZM
variable {M : zw_M} {d mc ms : Nat} {Q : Option Value → zw_S → zw_H → Prop} {pc np : Nat} {lv : List (Nat × Value)} {st : List Value} {sh : zw_S} {h : zw_H} {ck cs : Nat}
theorem zw_max {i : Nat} {x y : Int32} (hw : Cond.methodLink M.1.cls i Lib.Math.max.name ∈ zw_ts) (hd : decode M.2.1 pc = .ok (.invokestatic i, 3)) (hdep : 1 ≤ d) (hrest : (st.map fun v => v.category).sum ≤ 8) (hk : ck ≤ mc) (hs : cs ≤ ms) (hn : pc + 3 = np) (k : zw M d mc ms Q np lv (.int (zmax x y) :: st) sh h ck cs) : zw M d mc ms Q pc lv (.int y :: .int x :: st) sh h ck cs := by
  subst hn
  intro p l e R s m args below meth c g H locs ls Z C0 hW hS hl hZ
  have hts := C0.2.2.2.2.2.1
  have hlo := C0.2.2.2.2.2.2.2.2.2.2.2.2.1
  exact va_mmax C0.1 C0.2.1 (C0.2.2.2.1.trans hl.1.symm) C0.2.2.2.2.1 (hts _ hw) (hts _ zx_s1) (hts _ zx_ini) (hts _ zx_c1) (Nat.le_trans hdep C0.2.2.2.2.2.2.2.2.2.2.2.1) (by rw [zw_tr_sum]; omega) (Nat.le_trans hk C0.2.2.2.2.2.2.2.2.2.2.2.2.2.1) (Nat.le_trans hs C0.2.2.2.2.2.2.2.2.2.2.2.2.2.2) hd (k p l e R s m args below meth c g H locs ls Z C0 hW hS hl hZ)
theorem zw_min {i : Nat} {x y : Int32} (hw : Cond.methodLink M.1.cls i Lib.Math.min.name ∈ zw_ts) (hd : decode M.2.1 pc = .ok (.invokestatic i, 3)) (hdep : 1 ≤ d) (hrest : (st.map fun v => v.category).sum ≤ 8) (hk : ck ≤ mc) (hs : cs ≤ ms) (hn : pc + 3 = np) (k : zw M d mc ms Q np lv (.int (zmin x y) :: st) sh h ck cs) : zw M d mc ms Q pc lv (.int y :: .int x :: st) sh h ck cs := by
  subst hn
  intro p l e R s m args below meth c g H locs ls Z C0 hW hS hl hZ
  have hts := C0.2.2.2.2.2.1
  have hlo := C0.2.2.2.2.2.2.2.2.2.2.2.2.1
  exact va_mmin C0.1 C0.2.1 (C0.2.2.2.1.trans hl.1.symm) C0.2.2.2.2.1 (hts _ hw) (hts _ zx_s2) (hts _ zx_ini) (hts _ zx_c2) (Nat.le_trans hdep C0.2.2.2.2.2.2.2.2.2.2.2.1) (by rw [zw_tr_sum]; omega) (Nat.le_trans hk C0.2.2.2.2.2.2.2.2.2.2.2.2.2.1) (Nat.le_trans hs C0.2.2.2.2.2.2.2.2.2.2.2.2.2.2) hd (k p l e R s m args below meth c g H locs ls Z C0 hW hS hl hZ)
theorem zw_maxl {i : Nat} {x y : Int64} (hw : Cond.methodLink M.1.cls i Lib.MathLoose.max_long.x ∈ zw_ts) (hd : decode M.2.1 pc = .ok (.invokestatic i, 3)) (hdep : 1 ≤ d) (hrest : (st.map fun v => v.category).sum ≤ 8) (hk : ck ≤ mc) (hs : cs ≤ ms) (hn : pc + 3 = np) (k : zw M d mc ms Q np lv (.long (zmaxL x y) :: st) sh h ck cs) : zw M d mc ms Q pc lv (.long y :: .long x :: st) sh h ck cs := by
  subst hn
  intro p l e R s m args below meth c g H locs ls Z C0 hW hS hl hZ
  have hts := C0.2.2.2.2.2.1
  have hlo := C0.2.2.2.2.2.2.2.2.2.2.2.2.1
  exact va_mmax_long C0.1 C0.2.1 (C0.2.2.2.1.trans hl.1.symm) C0.2.2.2.2.1 (hts _ hw) (hts _ zx_s3) (hts _ zx_ini) (hts _ zx_c3) (Nat.le_trans hdep C0.2.2.2.2.2.2.2.2.2.2.2.1) (by rw [zw_tr_sum]; omega) (Nat.le_trans hk C0.2.2.2.2.2.2.2.2.2.2.2.2.2.1) (Nat.le_trans hs C0.2.2.2.2.2.2.2.2.2.2.2.2.2.2) hd (k p l e R s m args below meth c g H locs ls Z C0 hW hS hl hZ)
end ZM
