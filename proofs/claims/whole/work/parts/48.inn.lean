/-! inn -/
def bg0 (j : Nat) : Int32 := if 9 ≤ j ∧ j ≤ 20 then -1 else 0
theorem rd1_pos {B : Nat → Nat} {L e lo hi : Nat} {k : Nat → Bool × Nat × Ln} (he : e ≤ L) (hk : ∀ v, (k v).2.1 ≤ L) : (rd1 B L e lo hi k).2.1 ≤ L := by
  unfold rd1
  split
  · exact hk _
  · exact tb_le he
theorem rdl_pos {B : Nat → Nat} {L : Nat} {D : Dt} {e : Nat} (he : e ≤ L) : (rdl B L D e).2.1 ≤ L := by
  have t1 := te_le (B := B) he
  have t2 := te_le (B := B) t1
  have t3 := te_le (B := B) t2
  have t4 := te_le (B := B) t3
  have t5 := te_le (B := B) t4
  unfold rdl
  split
  · exact tb_le he
  · split
    · exact tb_le he
    · unfold rdt
      split
      · exact t1
      · split
        · exact rd1_pos t1 (fun _ => t2)
        · split
          · refine rd1_pos t1 (fun v => ?_)
            split
            · exact t2
            · exact tb_le t1
          · exact rd1_pos t1 (fun _ => rd1_pos t2 (fun _ => rd1_pos t3 (fun _ => rd1_pos t4 (fun _ => t5))))
theorem rf_pos {B : Nat → Nat} {L : Nat} : ∀ (d : Nat) (D : Dt) (e b v : Nat), e ≤ L → b ≤ L → (rf B L d D e b).1 = some v → v ≤ L
  | 0, D, e, b, v, _, hb, h => by cases h; exact hb
  | d + 1, D, e, b, v, he, hb, h => by
    have hp := rdl_pos (B := B) (D := D) he
    unfold rf at h
    split at h
    · cases h; exact hp
    · split at h
      · cases h
      · split at h
        · exact rf_pos d _ _ _ v (te_le hp) (tb_le hp) h
        · cases h; exact tb_le hp
section In
variable {g : QG} {h : Hp} {K : Int32 → Hp → Prop} {KV : Hp → Prop}
theorem l_mbegin2 {h0 : Hp} (kk : ∀ h2 : Hp, OnlyM [45] [] h0 h2 → (∀ j, j < 27 → h2 45 j = bg0 j) → wX8_begin_41 g KV h2 0) : ∀ (d i : Nat) (h : Hp), 27 - i = d → i ≤ 27 → OnlyM [45] [] h0 h → (∀ j, j < i → h 45 j = bg0 j) → wX8_begin_2 g KV h (nI i) := by
  intro d
  induction d with
  | zero =>
    intro i h hd hi ho hv
    have ei : i = 27 := by omega
    subst ei
    exact vX8_begin_2 ⟨fun _ => kk h ho hv, fun z => absurd (nI_le (a := 27) (Nat.le_refl _) (by decide)) z⟩
  | succ d ih =>
    intro i h hd hi ho hv
    have nx : ∀ v : Int32, v = bg0 i → wX8_begin_2 g KV (q_up h 45 i v) (nI (i + 1)) := fun v hv2 => ih (i + 1) _ (by omega) (by omega) (ho.trans (OnlyM.upC (by decide) (by decide))) (fun j hj => by
      by_cases ej : j = i
      · subst ej; rw [up_at]; exact hv2
      · rw [up_row _ _ _ _ ej]; exact hv j (by omega))
    refine vX8_begin_2 ⟨fun z => ?_, fun _ => c_inI (lo := 9) (hi := 20) (by decide) (by decide) ?_⟩
    · rw [show (27 : Int32) = nI 27 from rfl, nI_leI (by decide) (by omega)] at z; omega
    · rw [nI_toInt (by omega), nI_1, ix_nI (by omega)]
      refine br_b (fun z => ⟨vp_in_nI (by omega) (by decide), nx _ ?_⟩) (fun z => ⟨vp_in_nI (by omega) (by decide), nx _ ?_⟩)
      · have := of_decide_eq_false z
        unfold bg0; rw [if_neg (by omega)]
      · have := of_decide_eq_true z
        unfold bg0; rw [if_pos (by omega)]
theorem l_mbegin41 {n : Nat} {h0 : Hp} (hn : n ≤ 6) (e : h0 44 13 = nI n) (kk : ∀ h2 : Hp, OnlyM [45] [] h0 h2 → (∀ j, j < n → h2 45 (3 + j) = h0 50 j) → (∀ j, (j < 3 ∨ 9 ≤ j) → h2 45 j = h0 45 j) → KV h2) : ∀ (d i : Nat) (h : Hp), n - i = d → i ≤ n → OnlyM [45] [] h0 h → (∀ j, j < i → h 45 (3 + j) = h0 50 j) → (∀ j, (j < 3 ∨ 9 ≤ j) → h 45 j = h0 45 j) → wX8_begin_41 g KV h (nI i) := by
  intro d
  induction d with
  | zero =>
    intro i h hd hi ho h1 h2
    have ei : i = n := by omega
    subst ei
    exact vX8_begin_41 ⟨fun _ => kk h ho h1 h2, fun z => absurd (by rw [ho.2 13 (by decide), e]; exact nI_le (Nat.le_refl _) (by omega)) z⟩
  | succ d ih =>
    intro i h hd hi ho h1 h2
    refine vX8_begin_41 ⟨fun z => ?_, fun _ => ⟨vp_in_nI (by omega) (by decide), ?_⟩⟩
    · rw [ho.2 13 (by decide), e, nI_leI (by omega) (by omega)] at z; omega
    · rw [show (3 : Int32) = nI 3 from rfl, nI_add, nI_1, ix_nI (by omega), ix_nI (by omega), ho.1 50 (by decide) (by decide)]
      refine ⟨vp_in_nI (by omega) (by decide), ih (i + 1) _ (by omega) (by omega) (ho.trans (OnlyM.upC (by decide) (by decide))) (fun j hj => ?_) (fun j hj => by rw [up_row _ _ _ _ (by omega)]; exact h2 j hj)⟩
      by_cases ej : j = i
      · subst ej; rw [up_at]
      · rw [up_row _ _ _ _ (by omega)]; exact h1 j (by omega)
theorem c_mbegin {n : Nat} (hn : n ≤ 6) (e : h 44 13 = nI n) (kk : ∀ h2 : Hp, OnlyM [45] [] h h2 → (∀ j, j < n → h2 45 (3 + j) = h 50 j) → (∀ j, (j < 3 ∨ 9 ≤ j) → j < 27 → h2 45 j = bg0 j) → KV h2) : FV g mX8_begin [.ref 44] h KV := by
  refine eX8_begin (vX8_begin_0 (l_mbegin2 (g := g) (h0 := h) (fun h1 o1 v1 => ?_) 27 0 h rfl (by decide) (OnlyM.rf _) (fun j hj => by omega)))
  refine l_mbegin41 (g := g) (h0 := h1) hn (by rw [o1.2 13 (by decide)]; exact e) (fun h2 o2 v2 w2 => kk h2 (o1.trans o2) (fun j hj => by rw [v2 j hj, o1.1 50 (by decide) (by decide)]) (fun j hj h27 => by rw [w2 j hj]; exact v1 j h27)) n 0 h1 rfl (Nat.zero_le _) (OnlyM.rf _) (fun j hj => by omega) (fun _ _ => rfl)
theorem op_inn (hQ : StrOK g) (hS : Sim h) : FI g mX7_inn [.ref 0] h (fun r h1 => FI g mX8_inn [.ref 44] h1 (fun r2 h2 => r = r2 ∧ Sim h2)) := by
  obtain ⟨p, n, c, kd, sg, pc, wy, wt, hT, hTx, -⟩ := (Sim.iff h).mp hS
  obtain ⟨B, L, hX, hM⟩ := hTx.xm
  have hok := rf_ok (B := B) (L := L) 12 (p, n, c, kd, sg, pc, wy, wt) 0 0 hT.dB (Nat.zero_le _)
  refine eX7_inn (vX7_inn_0 (c_read hQ hT hX (fun h2 o2 q2 => ?_)))
  have hS2 : Sim h2 := hS.congr (fun k j hp => pers_T o2 hp)
  have e44 : h2 44 = h 44 := o2.1 44 (by decide) (by decide)
  have tm2 : TM h2 B L := ⟨hM.1, by rw [e44]; exact hM.2.1, by rw [o2.1 47 (by decide) (by decide)]; exact hM.2.2⟩
  generalize hr : rf B L 12 (p, n, c, kd, sg, pc, wy, wt) 0 0 = r at q2 hok ⊢
  obtain ⟨ro, Df, ls⟩ := r
  cases ro with
  | some v =>
    have hv : v ≤ L := rf_pos 12 _ _ _ v (Nat.zero_le _) (Nat.zero_le _) (by rw [hr])
    have hL := hX.1
    refine ⟨fun z => absurd z (a_m1 v (by omega)), fun z => ?_⟩
    · refine eX8_inn (vX8_inn_0 (c_fault (D := (p, n, c, kd, sg, pc, wy, wt)) hT.dB tm2 (by rw [e44]; exact hT.2.2.1.1) (by rw [e44]; exact hT.2.2.1.2.1) (by rw [e44]; exact hT.2.2.1.2.2) (fun h3 o3 _ => ?_)))
      rw [hr]
      exact ⟨fun y => absurd y z, fun _ => ⟨rfl, hS2.m (o3.weaken (by decide) (by decide))⟩⟩
  | none =>
    obtain ⟨hDX, hlen⟩ := q2 rfl
    obtain ⟨hfold, hokl, hl12⟩ := hok rfl
    have hfold : Df = ls.foldl apl (p, n, c, kd, sg, pc, wy, wt) := hfold
    have hlen : h2 7 3 = nI ls.length := hlen
    have hl12 : ls.length ≤ 12 := hl12
    have hDX : DX h2 Df := hDX
    have allB : ∀ (t : List Ln) (D : Dt), dB D → dR D → okls D t → dB (t.foldl apl D) ∧ dR (t.foldl apl D) := by
      intro t
      induction t with
      | nil => intro D a b _; exact ⟨a, b⟩
      | cons l t ih => intro D a b o; exact ih (apl D l) (apl_B a o.1) (apl_R b o.1) o.2
    obtain ⟨dBf, dRf⟩ := allB ls _ hT.dB hT.dR hokl
    rw [← hfold] at dBf dRf
    refine ⟨fun _ => ?_, fun z => absurd rfl z⟩
    refine eX6_copyFrom_r1_9 (vX6_copyFrom_r1_9_0 (eX0_begin (vX0_begin_0 (c_fill30 (fun h3 o3 v30 => c_getUp (fun h4 o4 y26 y28 y29 => ?_))))))
    generalize hH1 : q_up (q_upA (q_upA (q_upA (q_upA (q_upA (q_up (q_up (q_up h2 1 0 (h2 9 0)) 1 1 (h2 9 1)) 1 2 (h2 9 2)) 2 (va_cpy (h2 10) (h2 2) 0 0 6)) 3 (va_cpy (h2 11) (h2 3) 0 0 6)) 4 (va_cpy (h2 12) (h2 4) 0 0 6)) 5 (va_cpy (h2 13) (h2 5) 0 0 6)) 6 (va_cpy (h2 14) (h2 6) 0 0 6)) 7 1 0 = H1 at o3
    have a1 : ∀ k, k ∉ [1, 2, 3, 4, 5, 6, 7] → H1 k = h2 k := by
      intro k hk
      simp only [List.mem_cons, List.not_mem_nil, or_false, not_or] at hk
      obtain ⟨n1, n2, n3, n4, n5, n6, n7⟩ := hk
      rw [← hH1, up_cell _ _ _ _ n7, q_upA_ne n6, q_upA_ne n5, q_upA_ne n4, q_upA_ne n3, q_upA_ne n2, up_cell _ _ _ _ n1, up_cell _ _ _ _ n1, up_cell _ _ _ _ n1]
    have b10 : H1 1 0 = nI Df.1 := by rw [← hH1]; exact hDX.1.1
    have b11 : H1 1 1 = nI Df.2.2.1 := by rw [← hH1]; exact hDX.1.2.1
    have b12 : H1 1 2 = nI Df.2.1 := by rw [← hH1]; exact hDX.1.2.2
    have hn6 : Df.2.1 ≤ 6 := dBf.2.2.1
    have hp12 : Df.1 ≤ 12 := dBf.2.1
    have b2 : ∀ k, k < Df.2.1 → H1 2 k = nI (Df.2.2.2.1 k) ∧ H1 3 k = nI (Df.2.2.2.2.1 k) ∧ H1 4 k = nI (Df.2.2.2.2.2.1 k) ∧ H1 5 k = nI (Df.2.2.2.2.2.2.1 k) ∧ H1 6 k = nI (Df.2.2.2.2.2.2.2 k) := by
      intro k hk
      obtain ⟨w1, w2, w3, w4, w5⟩ := hDX.2 k hk
      rw [← hH1]
      exact ⟨(cpy6 _ _ (by omega)).trans w1, (cpy6 _ _ (by omega)).trans w2, (cpy6 _ _ (by omega)).trans w3, (cpy6 _ _ (by omega)).trans w4, (cpy6 _ _ (by omega)).trans w5⟩
    have b71 : H1 7 1 = 0 := by rw [← hH1]; rfl
    have b73 : H1 7 3 = nI ls.length := by rw [← hH1]; exact hlen
    clear hH1
    have a3 : ∀ k, k ∉ [26, 27, 28, 29, 30] → h4 k = H1 k := by
      intro k hk
      simp only [List.mem_cons, List.not_mem_nil, or_false, not_or] at hk
      obtain ⟨n1, n2, n3, n4, n5⟩ := hk
      rw [o4 k (by simp only [List.mem_cons, List.not_mem_nil, or_false, not_or]; exact ⟨n1, n3, n4⟩), o3 k (by simpa using n5), q_upA_ne n2, up_cell _ _ _ _ n1]
    have c260 : h4 26 0 = 0 := by
      rw [y26]
      show h3 26 0 = 0
      rw [o3 26 (by decide)]; rfl
    have c261 : h4 26 1 = 1 := by rw [y26]; rfl
    have c263 : h4 26 3 = 0 := by rw [y26]; rfl
    have c27 : ∀ k, k < Df.2.1 → h4 27 k = nI (Df.2.2.2.2.1 k) := fun k hk => by
      rw [o4 27 (by decide), o3 27 (by decide), q_upA_at, cpy6 _ _ (by omega)]
      exact (b2 k hk).2.1
    have c30 : ∀ k, k < 6 → h4 30 k = 0 := fun k hk => by rw [o4 30 (by decide)]; exact v30 k hk
    generalize hH : q_up (q_up (q_up h4 31 2 0) 36 2 0) 41 0 0 = H
    have a4 : ∀ k, k ∉ [31, 36, 41] → H k = h4 k := by
      intro k hk
      simp only [List.mem_cons, List.not_mem_nil, or_false, not_or] at hk
      rw [← hH, up_cell _ _ _ _ hk.2.2, up_cell _ _ _ _ hk.2.1, up_cell _ _ _ _ hk.1]
    have d31 : H 31 2 = 0 := by rw [← hH]; rfl
    have d36 : H 36 2 = 0 := by rw [← hH]; rfl
    have d41 : H 41 0 = 0 := by rw [← hH]; rfl
    have h473 : h4 7 3 = nI ls.length := by rw [a3 7 (by decide)]; exact b73
    rw [h473]
    have aM : ∀ k, 44 ≤ k → H k = h k := fun k hk => by
      rw [a4 k (by simp only [List.mem_cons, List.not_mem_nil, or_false, not_or]; omega), a3 k (by simp only [List.mem_cons, List.not_mem_nil, or_false, not_or]; omega), a1 k (by simp only [List.mem_cons, List.not_mem_nil, or_false, not_or]; omega), o2.1 k (by simp only [cX, List.mem_cons, List.not_mem_nil, or_false, not_or]; omega) (by omega)]
    have tmH : TM H B L := ⟨hM.1, by rw [aM 44 (by decide)]; exact hM.2.1, by rw [aM 47 (by decide)]; exact hM.2.2⟩
    refine eX8_inn (vX8_inn_0 (c_fault (D := (p, n, c, kd, sg, pc, wy, wt)) hT.dB tmH (by rw [aM 44 (by decide)]; exact hT.2.2.1.1) (by rw [aM 44 (by decide)]; exact hT.2.2.1.2.1) (by rw [aM 44 (by decide)]; exact hT.2.2.1.2.2) (fun h5 o5 q5 => ?_)))
    rw [hr] at q5 ⊢
    obtain ⟨q6, q7⟩ := q5 rfl
    refine ⟨fun _ => ?_, fun z => absurd rfl z⟩
    have mt5 : MTd h5 (p, n, c, kd, sg, pc, wy, wt) := by
      refine ⟨⟨?_, ?_, ?_⟩, fun k hk => ?_⟩
      · rw [o5.2 6 (by decide), aM 44 (by decide)]; exact hT.2.2.1.1
      · rw [o5.2 7 (by decide), aM 44 (by decide)]; exact hT.2.2.1.2.1
      · rw [o5.2 13 (by decide), aM 44 (by decide)]; exact hT.2.2.1.2.2
      · have hk : k < n := hk
        obtain ⟨w1, w2, w3, w4, w5⟩ := hT.2.2.2 k hk
        rw [o5.1 49 (by decide) (by decide), o5.1 50 (by decide) (by decide), o5.1 51 (by decide) (by decide), o5.1 52 (by decide) (by decide), o5.1 53 (by decide) (by decide), aM 49 (by decide), aM 50 (by decide), aM 51 (by decide), aM 52 (by decide), aM 53 (by decide)]
        exact ⟨w1.2.1, w2.2.1, w3.2.1, w4.2.1, w5.2.1⟩
    refine l_tells (g := g) (h0 := h5) (len := ls.length) hl12 ls 0 (p, n, c, kd, sg, pc, wy, wt) h5 (Nat.zero_add _) hokl hT.dB (fun i hi => by rw [Nat.zero_add]; exact q6 i hi) mt5 q7 (OnlyM.rf _) (fun h6 o6 mt6 => ?_)
    rw [← hfold] at mt6
    refine c_mbegin hn6 mt6.1.2.2 (fun h7 o7 v7 w7 => ?_)
    refine ⟨by rw [o7.2 5 (by decide), o6.2 5 (by decide)]; exact q7.symm, ?_⟩
    generalize hF : q_up (q_up (q_up (q_up h7 44 30 0) 46 0 0) 46 1 0) 44 3 0 = F
    have f443 : F 44 3 = 0 := by rw [← hF]; rfl
    have f4430 : F 44 30 = 0 := by rw [← hF]; rfl
    have f460 : F 46 0 = 0 := by rw [← hF]; rfl
    have f461 : F 46 1 = 0 := by rw [← hF]; rfl
    have f44 : F 44 6 = h6 44 6 ∧ F 44 7 = h6 44 7 ∧ F 44 13 = h6 44 13 := by
      rw [← hF]
      refine ⟨?_, ?_, ?_⟩
      · show h7 44 6 = _; exact o7.2 6 (by decide)
      · show h7 44 7 = _; exact o7.2 7 (by decide)
      · show h7 44 13 = _; exact o7.2 13 (by decide)
    have f7 : ∀ k, k ≠ 44 → k ≠ 46 → F k = h7 k := fun k n1 n2 => by
      rw [← hF, up_cell _ _ _ _ n1, up_cell _ _ _ _ n2, up_cell _ _ _ _ n2, up_cell _ _ _ _ n1]
    clear hF
    have fm : ∀ k, k ≠ 44 → k ≠ 46 → k ≠ 45 → F k = h6 k := fun k n1 n2 n3 => by rw [f7 k n1 n2, o7.1 k (by simpa using n3) n1]
    have fx : ∀ k, k < 44 → F k = H k := fun k hk => by
      rw [fm k (by omega) (by omega) (by omega), o6.1 k (by simp only [mT, List.mem_cons, List.not_mem_nil, or_false, not_or]; omega) (by omega), o5.1 k (by simp; omega) (by omega)]
    have fh : ∀ k, k < 44 → k ∉ [31, 36, 41] → F k = h4 k := fun k hk n1 => by rw [fx k hk, a4 k n1]
    have f1 : ∀ k, k < 44 → k ∉ [26, 27, 28, 29, 30, 31, 36, 41] → F k = H1 k := fun k hk n1 => by
      simp only [List.mem_cons, List.not_mem_nil, or_false, not_or] at n1
      rw [fh k hk (by simp only [List.mem_cons, List.not_mem_nil, or_false, not_or]; omega), a3 k (by simp only [List.mem_cons, List.not_mem_nil, or_false, not_or]; omega)]
    have r45 : ∀ j, (j < 3 ∨ 9 ≤ j) → j < 27 → F 45 j = bg0 j := fun j h1 h2 => by rw [f7 45 (by decide) (by decide)]; exact w7 j h1 h2
    refine (Sim.iff F).mpr ⟨Df.1, Df.2.1, Df.2.2.1, Df.2.2.2.1, Df.2.2.2.2.1, Df.2.2.2.2.2.1, Df.2.2.2.2.2.2.1, Df.2.2.2.2.2.2.2, ⟨dBf, ⟨?_, ?_, ?_⟩, ⟨?_, ?_, ?_⟩, fun k hk => ?_⟩, ⟨0, by omega, ?_, f443, fun i hi => by omega⟩, ⟨⟨0, by omega, ?_, ?_⟩, ⟨true, ?_, ?_⟩, ?_, fun k hk => ⟨⟨Df.2.2.2.2.1 k, (dRf k hk).2.1, ?_, ?_⟩, ?_, ?_⟩, fun q hq => ⟨fun k hk hh => ?_, Or.inl ?_⟩⟩, ⟨false, ?_, f460, fun z => by cases z⟩, ⟨false, ?_, f461, fun z => by cases z⟩, ⟨0, by omega, ?_, f4430, fun i hi => by omega⟩⟩
    · rw [f1 1 (by decide) (by decide)]; exact b10
    · rw [f1 1 (by decide) (by decide)]; exact b11
    · rw [f1 1 (by decide) (by decide)]; exact b12
    · rw [f44.1]; exact mt6.1.1
    · rw [f44.2.1]; exact mt6.1.2.1
    · rw [f44.2.2]; exact mt6.1.2.2
    · obtain ⟨x1, x2, x3, x4, x5⟩ := b2 k hk
      obtain ⟨m1, m2, m3, m4, m5⟩ := mt6.2 k hk
      obtain ⟨d1, d2, d3, d4, d5⟩ := dRf k hk
      rw [f1 2 (by decide) (by decide), f1 3 (by decide) (by decide), f1 4 (by decide) (by decide), f1 5 (by decide) (by decide), f1 6 (by decide) (by decide), fm 49 (by decide) (by decide) (by decide), fm 50 (by decide) (by decide) (by decide), fm 51 (by decide) (by decide) (by decide), fm 52 (by decide) (by decide) (by decide), fm 53 (by decide) (by decide) (by decide)]
      exact ⟨⟨x1, m1, d1⟩, ⟨x2, m2, d2⟩, ⟨x3, m3, d3⟩, ⟨x4, m4, d4⟩, ⟨x5, m5, d5⟩⟩
    · rw [f1 7 (by decide) (by decide)]; exact b71
    · rw [fh 26 (by decide) (by decide)]; exact c260
    · rw [r45 0 (by omega) (by omega)]; rfl
    · rw [fh 26 (by decide) (by decide)]; exact c261
    · rw [r45 (0 + 1) (by omega) (by omega)]; rfl
    · rw [fh 26 (by decide) (by decide), r45 (0 + 2) (by omega) (by omega)]; exact c263
    · rw [fh 27 (by decide) (by decide)]; exact c27 k hk
    · rw [f7 45 (by decide) (by decide), Nat.zero_add, v7 k hk]
      exact (mt6.2 k hk).2.1
    · rw [fh 28 (by decide) (by decide), y28 k (by omega), r45 _ (by omega) (by omega)]
      unfold bg0; rw [if_pos (by omega)]
    · rw [fh 30 (by decide) (by decide), c30 k (by omega), r45 _ (by omega) (by omega)]
      unfold bg0; rw [if_neg (by omega)]
    · rw [r45 _ (by omega) (by omega), r45 _ (by omega) (by omega)] at hh
      unfold bg0 at hh
      rw [if_pos (by omega), if_pos (by omega)] at hh
      rcases hh with z | z
      · exact absurd z.symm (a_m1 q (by omega))
      · exact absurd z.symm (a_m1 q (by omega))
    · rw [fh 29 (by decide) (by decide)]; exact y29 q (by omega)
    · rw [fx 31 (by decide)]; exact d31
    · rw [fx 36 (by decide)]; exact d36
    · rw [fx 41 (by decide)]; exact d41
end In
