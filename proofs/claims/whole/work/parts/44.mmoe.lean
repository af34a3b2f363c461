theorem kMB_ord : (k6.all fun n => decide (((kM n).zip ((kT n).map fun t => kb n t n)).Pairwise fun x y => y.1 &&& x.1 = y.1 → x.2 < y.2)) = true := by decide +kernel
/-- what is strictly below has more blocks -/
theorem kB_lt {n a b : Nat} (h1 : 1 ≤ n) (h2 : n ≤ 6) (ha : a < kN n) (hb : b < kN n) (h : lt n a b) : kB n b < kB n a := by
  have hab := le_ord h1 h2 ha hb h.1 h.2
  have hl : (kM n).length = kN n := by
    have h3 := of_decide_eq_true (List.all_eq_true.mp kM_of n (k6_mem h1 h2))
    rw [← h3, List.length_map]
    rfl
  have hz := of_decide_eq_true (List.all_eq_true.mp kMB_ord n (k6_mem h1 h2))
  rw [List.pairwise_iff_getElem] at hz
  have hlt : (kT n).length = kN n := rfl
  have hq := hz b a (by simp [hl, hlt]; omega) (by simp [hl, hlt]; omega) hab
  simp only [List.getElem_zip, List.getElem_map] at hq
  have hm : ∀ g, (hg : g < kN n) → (kM n)[g]'(by omega) = km n g := fun g hg => by
    unfold km
    rw [List.getD_eq_getElem?_getD, List.getElem?_eq_getElem (by omega)]
    rfl
  have hk : ∀ g, (hg : g < (kT n).length) → (kT n)[g] = kt n g := fun g hg => by
    unfold kt
    rw [List.getD_eq_getElem?_getD, List.getElem?_eq_getElem hg]
    rfl
  have ha' : a < (kT n).length := ha
  have hb' : b < (kT n).length := hb
  rw [hm a ha, hm b hb, hk a ha', hk b hb'] at hq
  exact hq h.1
/-- a sum -/
def sL (f : Nat → Int64) : Nat → Int64
  | 0 => 0
  | n + 1 => sL f n + f n
theorem sL_cong {f g : Nat → Int64} : ∀ {n : Nat}, (∀ k, k < n → f k = g k) → sL f n = sL g n
  | 0, _ => rfl
  | n + 1, h => by rw [sL, sL, sL_cong (n := n) (fun k hk => h k (by omega)), h n (by omega)]
/-- between a and b, and admitted -/
def btw (s : zS) (a b z : Nat) : Prop := adm s z = true ∧ le s.1 a z ∧ le s.1 z b
noncomputable def muF (s : zS) (a b : Nat) : Nat → Nat → Int64
  | 0, _ => 0
  | f + 1, z => by classical exact if z = a then 1 else if btw s a b z then -(sL (fun w => if btw s a b w ∧ lt s.1 w z then muF s a b f w else 0) (kN s.1)) else 0
theorem muF_eq {s : zS} {a b : Nat} (h1 : 1 ≤ s.1) (h2 : s.1 ≤ 6) : ∀ f f' z, z < kN s.1 → s.1 - kB s.1 z < f → s.1 - kB s.1 z < f' → muF s a b f z = muF s a b f' z
  | 0, _, _, _, h, _ => absurd h (by omega)
  | _ + 1, 0, _, _, _, h => absurd h (by omega)
  | f + 1, f' + 1, z, hz, hf, hf' => by
    classical
    rw [muF, muF]
    have e : sL (fun w => if btw s a b w ∧ lt s.1 w z then muF s a b f w else 0) (kN s.1) = sL (fun w => if btw s a b w ∧ lt s.1 w z then muF s a b f' w else 0) (kN s.1) := sL_cong fun w hw => by
      by_cases hx : btw s a b w ∧ lt s.1 w z
      · have hk := kB_lt h1 h2 hw hz hx.2
        have hk2 := kB_le h1 h2 hw
        rw [if_pos hx, if_pos hx, muF_eq h1 h2 f f' w hw (by omega) (by omega)]
      · rw [if_neg hx, if_neg hx]
    rw [e]
/-- the Moebius values from a -/
noncomputable def mu (s : zS) (a b z : Nat) : Int64 := muF s a b 7 z
noncomputable def muT (s : zS) (a b z w : Nat) : Int64 := by classical exact if btw s a b w ∧ lt s.1 w z then mu s a b w else 0
theorem mu_eq {s : zS} {a b z : Nat} (h1 : 1 ≤ s.1) (h2 : s.1 ≤ 6) (hz : z < kN s.1) : (z = a → mu s a b z = 1) ∧ (z ≠ a → ¬ btw s a b z → mu s a b z = 0) ∧ (z ≠ a → btw s a b z → mu s a b z = -(sL (muT s a b z) (kN s.1))) := by
  classical
  unfold mu
  rw [muF]
  refine ⟨fun e => if_pos e, fun e e2 => ?_, fun e e2 => ?_⟩
  · rw [if_neg e, if_neg e2]
  · rw [if_neg e, if_pos e2]
    have e3 : sL (fun w => if btw s a b w ∧ lt s.1 w z then muF s a b 6 w else 0) (kN s.1) = sL (muT s a b z) (kN s.1) := sL_cong fun w hw => by
      unfold muT mu
      by_cases hx : btw s a b w ∧ lt s.1 w z
      · have hk := kB_lt h1 h2 hw hz hx.2
        have hk2 := kB_le h1 h2 hw
        have hk3 := kB_le h1 h2 hz
        rw [if_pos hx, if_pos hx, muF_eq h1 h2 6 7 w hw (by omega) (by omega)]
      · rw [if_neg hx, if_neg hx]
    rw [e3]
theorem c_X8_moebiuses {h : zw_H} {s : zS} {a b : Nat} (T : RT h s.1) (A : RA h s) (ha : a < kN s.1) (hb : b < kN s.1) : zcV 3 mX8_moebiuses [.ref 56, .int (nI a), .int (nI b)] h (fun h' => (∀ z, z < kN s.1 → h'.2 63 z = mu s a b z) ∧ Fr (fun a _ => a = 63) h h') := by
  have n1 := T.1
  have n2 := T.2.1
  have hN := (kN_le n1 n2).1
  refine zcV_of rfl pn_X8 (fun _ => Nat.le_of_ble_eq_true rfl) rfl (rX8_moebiuses_0 ?_)
  generalize hQ : (fun (h' : zw_H) => (∀ z, z < kN s.1 → h'.2 63 z = mu s a b z) ∧ Fr (fun a _ => a = 63) h h') = Q
  refine lp_up (P := fun r => ∀ k, Fr (fun a _ => a = 63) h k → (∀ z, z < kN s.1 → s.1 - kB s.1 z < r → k.2 63 z = mu s a b z) → zwV 3 mX8_moebiuses Q 2 [(0, .ref 56), (1, .int (nI a)), (2, .int (nI b)), (3, .int (nI r))] [] k) (N := 6) ?_ ?_ 0 (by omega) h Fr.rf (fun _ _ h => absurd h (by omega))
  · intro k fr inv
    refine rX8_moebiuses_2 ⟨fun _ => ?_, fun c => absurd (by decide) c⟩
    rw [← hQ]
    refine ⟨fun z hz => inv z hz ?_, fr⟩
    have := kB_le n1 n2 hz
    omega
  · intro r hr ih k fr inv
    refine rX8_moebiuses_2 ⟨fun c => ?_, fun _ => ?_⟩
    · have := zle (a := 6) c
      omega
    refine lp_up (P := fun z => ∀ k, Fr (fun a _ => a = 63) h k → (∀ z', z' < kN s.1 → (s.1 - kB s.1 z' < r ∨ s.1 - kB s.1 z' = r ∧ z' < z) → k.2 63 z' = mu s a b z') → zwV 3 mX8_moebiuses Q 11 [(0, .ref 56), (1, .int (nI a)), (2, .int (nI b)), (3, .int (nI r)), (4, .int (nI z))] [] k) (N := kN s.1) ?_ ?_ 0 (by omega) k fr (fun z' hz' q => inv z' hz' (by omega))
    · intro k fr inv
      have T' : RT k s.1 := T.fr fr (by omega) (by omega) (fun _ => by omega) (fun _ => by omega)
      refine rX8_moebiuses_11 ⟨fun _ => ?_, fun c => absurd (by rw [T'.2.2.2.1]; exact nI_le (Nat.le_refl _) (by omega)) c⟩
      rw [nI_1]
      exact ih k fr (fun z hz q => inv z hz (by omega))
    · intro z hz ih2 k fr inv
      have T' : RT k s.1 := T.fr fr (by omega) (by omega) (fun _ => by omega) (fun _ => by omega)
      have A' : RA k s := A.fr fr (fun _ => by omega) (by omega)
      have h4 := T'.2.2.2.1
      have hB := kB_le n1 n2 hz
      obtain ⟨m1, m2, m3⟩ := mu_eq (a := a) (b := b) n1 n2 hz
      -- the place z is done
      have go : ∀ k2, Fr (fun a b => a = 63 ∧ b = z) k k2 → k2.2 63 z = mu s a b z → s.1 - kB s.1 z = r → zwV 3 mX8_moebiuses Q 11 [(0, .ref 56), (1, .int (nI a)), (2, .int (nI b)), (3, .int (nI r)), (4, .int (nI z + 1))] [] k2 := fun k2 f2 e2 er => by
        rw [nI_1]
        refine ih2 k2 (fr.tr (f2.mo (fun a b q => q.1))) (fun z' hz' q => ?_)
        by_cases hx : z' = z
        · rw [hx]; exact e2
        · rw [f2.2 63 z' (by omega)]
          exact inv z' hz' (by omega)
      have mid : ∀ k2, Fr (fun a b => a = 63 ∧ b = z) k k2 → RT k2 s.1 ∧ RA k2 s := fun k2 f2 => ⟨T'.fr f2 (by omega) (by omega) (fun _ => by omega) (fun _ => by omega), A'.fr f2 (fun _ => by omega) (by omega)⟩
      refine rX8_moebiuses_11 ⟨fun c => ?_, fun _ => ca (c_X8_rank T' hz) ⟨fun c => ?_, fun c => ⟨fun c2 => ⟨z, rfl, by omega, fun k2 e2 => ?_⟩, fun c2 => ⟨z, rfl, by omega, fun k2 e2 => ?_⟩⟩⟩⟩
      · rw [h4] at c
        have := zle c
        omega
      · rw [nI_1]
        have hne := zne c
        exact ih2 k fr (fun z' hz' q => inv z' hz' (by
          by_cases hx : z' = z
          · subst hx; omega
          · omega))
      · have er := zeq c
        have hza := zne c2
        have f2 : Fr (fun a b => a = 63 ∧ b = z) k k2 := Fr.rf.sL e2 ⟨rfl, rfl⟩
        have v2 : k2.2 63 z = 0 := by rw [e2, zw_sL_s]
        obtain ⟨T2, A2⟩ := mid k2 f2
        by_cases hbt : btw s a b z
        · have v3 : k2.2 63 z = -(sL (muT s a b z) 0) := by rw [v2, sL]; decide
          refine lp_up (P := fun w => ∀ k3, Fr (fun a b => a = 63 ∧ b = z) k k3 → k3.2 63 z = -(sL (muT s a b z) w) → zwV 3 mX8_moebiuses Q 51 [(0, .ref 56), (1, .int (nI a)), (2, .int (nI b)), (3, .int (nI r)), (4, .int (nI z)), (5, .int (nI w))] [] k3) (N := kN s.1) ?_ ?_ 0 (by omega) k2 f2 v3
          · intro k3 f3 e3
            obtain ⟨T3, A3⟩ := mid k3 f3
            refine rX8_moebiuses_51 ⟨fun _ => go k3 f3 (by rw [e3, m3 hza hbt]) er, fun c => absurd (by rw [T3.2.2.2.1]; exact nI_le (Nat.le_refl _) (by omega)) c⟩
          · intro w hw ih3 k3 f3 e3
            obtain ⟨T3, A3⟩ := mid k3 f3
            have no : ¬ (btw s a b w ∧ lt s.1 w z) → ∀ k4, k4 = zw_sL k3 63 z (k3.2 63 z - 0) → zwV 3 mX8_moebiuses Q 51 [(0, .ref 56), (1, .int (nI a)), (2, .int (nI b)), (3, .int (nI r)), (4, .int (nI z)), (5, .int (nI w + 1))] [] k4 := fun n k4 e4 => by
              rw [nI_1]
              refine ih3 k4 (f3.sL e4 ⟨rfl, rfl⟩) ?_
              rw [e4, zw_sL_s, e3, sL, muT, if_neg n, Int64.sub_zero, Int64.add_zero]
            refine rX8_moebiuses_51 ⟨fun c => ?_, fun _ => ⟨fun c => absurd c c2, fun _ => ca (c_X8_isBetween T3 A3 hz ha hb) ⟨fun c => absurd hbt (bI_0.mp c), fun _ => ⟨z, rfl, by omega, ca (c_X8_isBetween T3 A3 hw ha hb) ⟨fun c4 => ⟨z, rfl, by omega, no (fun q => bI_0.mp c4 q.1)⟩, fun c4 => ca (c_X8_isStrictly T3 hw hz) ⟨fun c5 => ⟨z, rfl, by omega, no (fun q => bI_0.mp c5 q.2)⟩, fun c5 => ⟨w, rfl, by omega, z, rfl, by omega, fun k4 e4 => ?_⟩⟩⟩⟩⟩⟩⟩
            · rw [T3.2.2.2.1] at c
              have := zle c
              omega
            · rw [nI_1]
              refine ih3 k4 (f3.sL e4 ⟨rfl, rfl⟩) ?_
              have hlt : lt s.1 w z := bI_yes c5
              have hwz : w ≠ z := hlt.2
              have hk := kB_lt n1 n2 hw hz hlt
              have hk2 := kB_le n1 n2 hw
              rw [e4, zw_sL_s, e3, f3.2 63 w (by omega), inv w hw (Or.inl (by omega)), sL, muT, if_pos ⟨bI_yes c4, hlt⟩, Int64.neg_add, Int64.sub_eq_add_neg]
        · refine rX8_moebiuses_51 ⟨fun _ => go k2 f2 (by rw [v2, m2 hza hbt]) er, fun _ => ⟨fun c => absurd c c2, fun _ => ca (c_X8_isBetween T2 A2 hz ha hb) ⟨fun _ => go k2 f2 (by rw [v2, m2 hza hbt]) er, fun c => absurd (bI_yes c) hbt⟩⟩⟩
      · have er := zeq c
        have hza := zeq c2
        have f2 : Fr (fun a b => a = 63 ∧ b = z) k k2 := Fr.rf.sL e2 ⟨rfl, rfl⟩
        have v2 : k2.2 63 z = mu s a b z := by rw [e2, zw_sL_s, m1 hza]
        exact rX8_moebiuses_51 ⟨fun _ => go k2 f2 v2 er, fun _ => ⟨fun _ => go k2 f2 v2 er, fun c3 => absurd c2 c3⟩⟩
/-- what a method promises that answers a long -/
def opL (h : zw_H) (sp : Int64 × zA) : Int64 → zw_H → Prop := fun x h' => x = sp.1 ∧ RW h' sp.2 ∧ Fr pR h h'
theorem RW.sameL {h : zw_H} {A : zA} (W : RW h A) (x : Int64) : opL h (x, A) x h := ⟨rfl, W, Fr.rf⟩
/-- apart from values -/
def gdV (f : Int32) (x : Int64) : Int64 := if f = 0 then x else (-1000000000 : Int64) + Int32.toInt64 f
def gdL (f : Int32) (x : Int64) : Int64 := if f = 0 then x else Int32.toInt64 f
theorem wr3_0 {s : zS} {r q : Int32} (h : wr3 s r q = 0) : wr2 s r q = 0 ∧ adm s (rgt s r) = true ∧ adm s (rgt s q) = true := by
  unfold wr3 at h
  by_cases hx : wr2 s r q = 0
  · rw [if_pos hx] at h
    by_cases hy : adm s (rgt s r) = true ∧ adm s (rgt s q) = true
    · exact ⟨hx, hy⟩
    · rw [if_neg hy] at h
      exact absurd h (by decide)
  · rw [if_neg hx] at h
    exact absurd h hx
theorem m_moebius {h : zw_H} {A : zA} {r s : Int32} (W : RW h A) : zcL 4 mX8_moebius [.ref 56, .int r, .int s] h (opL h (gdV (wr3 A.1 r s) (mu A.1 (rgt A.1 r) (rgt A.1 s) (rgt A.1 s)), A)) := by
  have n1 := W.2.1.1
  have n2 := W.2.1.2.1
  have hN := (kN_le n1 n2).1
  refine zcL_of rfl pn_X8 (fun _ => Nat.le_of_ble_eq_true rfl) rfl (rX8_moebius_0 (ca (c_X8_wrongAdmitted W.1.1 W.2.1 W.2.2.1 W.2.2.2.1) ⟨fun c => ?_, fun c => ?_⟩))
  · obtain ⟨c2, ad1, ad2⟩ := wr3_0 c
    obtain ⟨d1, d2⟩ := wr2_0 c2
    obtain ⟨a, a1, a2, a3, a4⟩ := rgt_ok W.1.1 d1
    obtain ⟨b, b1, b2, b3, b4⟩ := rgt_ok W.1.1 d2
    rw [gdV, if_pos c]
    refine ca (c_X8_heldR W.1.1 W.2.2.1 d1) (ca (c_X8_heldR W.1.1 W.2.2.1 d2) (ca (c_X8_isBelow W.2.1 a4 b4) ⟨fun c3 => ca (c_X8_heldR W.1.1 W.2.2.1 d1) (ca (c_X8_heldR W.1.1 W.2.2.1 d2) (caV (c_X8_moebiuses W.2.1 W.2.2.2.1 a4 b4) (fun k rr => ?_))), fun c3 => ?_⟩))
    · have W1 : RW k A := W.fr (rr.2.mo (fun a b z => by unfold pS; omega))
      refine ca (c_X8_heldR W1.1.1 W1.2.2.1 d2) ⟨_, rfl, by omega, rr.1 _ b4, W1, rr.2.mo (fun a b z => by unfold pR; omega)⟩
    · obtain ⟨m1, m2, m3⟩ := mu_eq (a := rgt A.1 r) (b := rgt A.1 s) n1 n2 b4
      have hne : rgt A.1 s ≠ rgt A.1 r := fun z => bI_0.mp c3 (by rw [z]; exact le_refl _ _)
      rw [m2 hne (fun z => bI_0.mp c3 z.2.1)]
      exact W.sameL _
  · rw [gdV, if_neg c]
    exact W.sameL _
