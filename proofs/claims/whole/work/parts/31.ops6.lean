/-! keep and back, for each place of keeping -/
section O6
variable {g : QG} {h : Hp} {K : Int32 → Hp → Prop} {KV : Hp → Prop}
theorem op_keep0 (hS : Sim h) : FV g mX0_copyFrom [.ref 31, .ref 26] h (fun h2 => FI g mX8_keep [.ref 44, .int (nI 0)] (q_up h2 31 2 1) (fun r2 h3 => h2 26 0 = r2 ∧ Sim h3)) := by
  obtain ⟨p, n, c, kd, sg, pc, wy, wt, hT, hX, hE, hK1, hK2, hN⟩ := (Sim.iff h).mp hS
  have hn := hT.1.2.2.1
  have hp := hT.1.2.1
  have hE0 := hE
  obtain ⟨⟨t, t0, t1, t2⟩, ⟨b, b1, b2⟩, s1, hq, ho⟩ := hE
  refine eX0_copyFrom_r31_26 (vX0_copyFrom_r31_26_0 ⟨by rw [b1]; exact bi_bool b, ?_⟩)
  generalize hh : (q_up (q_upA (q_upA (q_upA (q_upA (q_up (q_up (q_up h 31 0 (h 26 0)) 31 1 (h 26 1)) 31 3 (h 26 3)) 32 (va_cpy (h 27) (h 32) 0 0 6)) 33 (va_cpy (h 28) (h 33) 0 0 6)) 34 (va_cpy (h 29) (h 34) 0 0 12)) 35 (va_cpy (h 30) (h 35) 0 0 6)) 31 2 1) = h2
  have o2 : Only [31, 32, 33, 34, 35] h h2 := by
    rw [← hh]
    exact (((((((Only.up (by decide)).trans (Only.up (by decide))).trans (Only.up (by decide))).trans (Only.upA (by decide))).trans (Only.upA (by decide))).trans (Only.upA (by decide))).trans (Only.upA (by decide))).trans (Only.up (by decide))
  have c0 : h2 31 0 = h 26 0 ∧ h2 31 1 = h 26 1 ∧ h2 31 3 = h 26 3 ∧ h2 31 2 = 1 := by rw [← hh]; exact ⟨rfl, rfl, rfl, rfl⟩
  have cc : ∀ (f f2 : Nat → Int32) (m j : Nat), j < m → va_cpy f f2 0 0 m j = f j := fun f f2 m j hj => by rw [pk_cpy_in (by omega) (by omega), Nat.zero_add, Nat.sub_zero]
  have c1 : ∀ j, j < 6 → h2 32 j = h 27 j := fun j hj => by rw [← hh]; exact cc _ _ 6 j hj
  have c2 : ∀ j, j < 6 → h2 33 j = h 28 j := fun j hj => by rw [← hh]; exact cc _ _ 6 j hj
  have c3 : ∀ j, j < 12 → h2 34 j = h 29 j := fun j hj => by rw [← hh]; exact cc _ _ 12 j hj
  have c4 : ∀ j, j < 6 → h2 35 j = h 30 j := fun j hj => by rw [← hh]; exact cc _ _ 6 j hj
  clear hh
  refine eX8_keep (vX8_keep_0 (c_inE (br_b' (fun z => absurd z (by decide)) (fun _ => ?_))))
  rw [show (1 : Int32) + nI 0 = nI 1 from rfl]
  refine c_copy (a := 0) (b := 1) (by decide) (by decide) (by decide) (fun h3 o3 v3 w3 => ⟨vp_in_nI (by decide) (by decide), ?_, ?_⟩)
  · have e45 : h3 45 0 = h 45 0 := by rw [w3 0 (by decide), o2 45 (by decide)]
    show h 26 0 = h3 45 0
    rw [e45, t1, show h 45 0 = _ from t2]
  · rw [ix_nI (by decide)]
    have ex : ∀ q, q ∉ [31, 32, 33, 34, 35, 44, 45, 46] → (q_up h3 46 0 1) q = h q := fun q hq2 => by
      have hk2 : q ∉ [31, 32, 33, 34, 35] ∧ q ∉ [45] ∧ q ≠ 44 ∧ q ≠ 46 := by
        simp only [List.mem_cons, List.not_mem_nil, or_false, not_or] at hq2 ⊢
        omega
      rw [q_up_ne hk2.2.2.2, o3.1 q hk2.2.1 hk2.2.2.1, o2 q hk2.1]
    have e44 : ∀ j, (q_up h3 46 0 1) 44 j = h 44 j := fun j => by
      rw [up_cell _ _ _ _ (by decide), o3.2 j (by simp), o2 44 (by decide)]
    have r45 : ∀ j, (j < 27 ∨ 27 + 27 ≤ j) → (q_up h3 46 0 1) 45 j = h 45 j := fun j hj => by
      rw [up_cell _ _ _ _ (by decide), w3 j (by omega), o2 45 (by decide)]
    have x45 : ∀ j, j < 27 → (q_up h3 46 0 1) 45 (27 + j) = h 45 (0 + j) := fun j hj => by
      rw [up_cell _ _ _ _ (by decide), show 27 + j = 27 * 1 + j by omega, v3 j hj, o2 45 (by decide)]
    have hk : KpR (q_up h3 46 0 1) 31 27 0 p n := by
      refine ⟨true, ?_, up_at _ _ _ _, fun _ => hE0.mv hn hp ?_ (fun j hj => ?_) (fun j hj => ?_) (fun j hj => ?_) (fun j hj => ?_) x45⟩
      · rw [up_cell _ _ _ _ (by decide), o3.1 31 (by decide) (by decide)]; exact c0.2.2.2
      · rw [up_cell _ _ _ _ (by decide), o3.1 31 (by decide) (by decide)]; exact ⟨c0.1, c0.2.1, c0.2.2.1⟩
      · rw [up_cell _ _ _ _ (by decide), o3.1 _ (by decide) (by decide)]; exact c1 j hj
      · rw [up_cell _ _ _ _ (by decide), o3.1 _ (by decide) (by decide)]; exact c2 j hj
      · rw [up_cell _ _ _ _ (by decide), o3.1 _ (by decide) (by decide)]; exact c3 j hj
      · rw [up_cell _ _ _ _ (by decide), o3.1 _ (by decide) (by decide)]; exact c4 j hj
    have ho : KpR (q_up h3 46 0 1) 36 54 1 p n := KpR.cg hK2 hn (ex _ (by decide)) (by rw [up_row _ _ _ _ (by decide), o3.1 46 (by decide) (by decide), o2 46 (by decide)]) ⟨ex _ (by decide), ex _ (by decide), ex _ (by decide), ex _ (by decide)⟩ (fun j hj => r45 _ (by omega))
    exact (Sim.iff _).mpr ⟨p, n, c, kd, sg, pc, wy, wt, hT.cg ⟨ex 1 (by decide), ex 2 (by decide), ex 3 (by decide), ex 4 (by decide), ex 5 (by decide), ex 6 (by decide)⟩ ⟨ex 49 (by decide), ex 50 (by decide), ex 51 (by decide), ex 52 (by decide), ex 53 (by decide)⟩ ⟨e44 6, e44 7, e44 13⟩, hX.cg ⟨by rw [ex 7 (by decide)], e44 3, ex 8 (by decide), ex 47 (by decide)⟩, hE0.cg hn (by rw [ex 26 (by decide)]; exact ⟨rfl, rfl, rfl⟩) ⟨ex 27 (by decide), ex 28 (by decide), ex 29 (by decide), ex 30 (by decide)⟩ (fun j hj => r45 _ (by omega)), hk, ho, hN.cg ⟨by rw [ex 41 (by decide)], e44 30, ex 42 (by decide), ex 43 (by decide), ex 60 (by decide)⟩⟩
theorem op_back0 (hS : Sim h) (hb : ¬ h 31 2 = 0) : FV g mX0_copyFrom [.ref 26, .ref 31] h (fun h2 => FI g mX8_back [.ref 44, .int (nI 0)] h2 (fun r2 h3 => h2 26 0 = r2 ∧ Sim h3)) := by
  obtain ⟨p, n, c, kd, sg, pc, wy, wt, hT, hX, hE, hK1, hK2, hN⟩ := (Sim.iff h).mp hS
  have hn := hT.1.2.2.1
  have hp := hT.1.2.1
  have hkk := hK1
  obtain ⟨f, f1, f2, f3⟩ := hkk
  rw [f1, bin0] at hb
  subst hb
  have hE1 := f3 rfl
  have hE0 := hE1
  obtain ⟨⟨t, t0, t1, t2⟩, ⟨b, b1, b2⟩, s1, hq, ho⟩ := hE1
  refine eX0_copyFrom_r26_31 (vX0_copyFrom_r26_31_0 ⟨by rw [b1]; exact bi_bool b, ?_⟩)
  generalize hh : (q_upA (q_upA (q_upA (q_upA (q_up (q_up (q_up h 26 0 (h 31 0)) 26 1 (h 31 1)) 26 3 (h 31 3)) 27 (va_cpy (h 32) (h 27) 0 0 6)) 28 (va_cpy (h 33) (h 28) 0 0 6)) 29 (va_cpy (h 34) (h 29) 0 0 12)) 30 (va_cpy (h 35) (h 30) 0 0 6)) = h2
  have o2 : Only [26, 27, 28, 29, 30] h h2 := by
    rw [← hh]
    exact ((((((Only.up (by decide)).trans (Only.up (by decide))).trans (Only.up (by decide))).trans (Only.upA (by decide))).trans (Only.upA (by decide))).trans (Only.upA (by decide))).trans (Only.upA (by decide))
  have c0 : h2 26 0 = h 31 0 ∧ h2 26 1 = h 31 1 ∧ h2 26 3 = h 31 3 := by rw [← hh]; exact ⟨rfl, rfl, rfl⟩
  have cc : ∀ (f f2 : Nat → Int32) (m j : Nat), j < m → va_cpy f f2 0 0 m j = f j := fun f f2 m j hj => by rw [pk_cpy_in (by omega) (by omega), Nat.zero_add, Nat.sub_zero]
  have c1 : ∀ j, j < 6 → h2 27 j = h 32 j := fun j hj => by rw [← hh]; exact cc _ _ 6 j hj
  have c2 : ∀ j, j < 6 → h2 28 j = h 33 j := fun j hj => by rw [← hh]; exact cc _ _ 6 j hj
  have c3 : ∀ j, j < 12 → h2 29 j = h 34 j := fun j hj => by rw [← hh]; exact cc _ _ 12 j hj
  have c4 : ∀ j, j < 6 → h2 30 j = h 35 j := fun j hj => by rw [← hh]; exact cc _ _ 6 j hj
  clear hh
  refine eX8_back (vX8_back_0 (c_inE (br_b' (fun z => absurd z (by decide)) (fun _ => ⟨vp_in_nI (by decide) (by decide), ?_⟩))))
  rw [ix_nI (by decide), o2 46 (by decide), f2]
  refine ⟨fun _ => ?_, fun z => absurd z (by decide)⟩
  rw [show (1 : Int32) + nI 0 = nI 1 from rfl]
  refine c_copy (a := 1) (b := 0) (by decide) (by decide) (by decide) (fun h3 o3 v3 w3 => ⟨?_, ?_⟩)
  · have e45 := v3 0 (by decide)
    rw [o2 45 (by decide)] at e45
    rw [c0.1, t1]
    exact (e45.trans t2).symm
  · refine Sim.ev hT hX hK1 hK2 hN (fun q hq2 => ?_) (fun j hj => ?_) (fun j hj => ?_) (hE0.mv hn hp ?_ (fun j hj => ?_) (fun j hj => ?_) (fun j hj => ?_) (fun j hj => ?_) (fun j hj => ?_))
    · have hk2 : q ∉ [26, 27, 28, 29, 30] ∧ q ∉ [45] ∧ q ≠ 44 := by
        simp only [evX, List.mem_cons, List.not_mem_nil, or_false, not_or] at hq2 ⊢
        omega
      rw [o3.1 q hk2.2.1 hk2.2.2, o2 q hk2.1]
    · rw [o3.2 j (by simp), o2 44 (by decide)]
    · rw [w3 j (by omega), o2 45 (by decide)]
    · rw [o3.1 26 (by decide) (by decide)]; exact c0
    · rw [o3.1 _ (by decide) (by decide)]; exact c1 j hj
    · rw [o3.1 _ (by decide) (by decide)]; exact c2 j hj
    · rw [o3.1 _ (by decide) (by decide)]; exact c3 j hj
    · rw [o3.1 _ (by decide) (by decide)]; exact c4 j hj
    · have := v3 j hj
      rw [o2 45 (by decide)] at this
      exact this
theorem op_keep1 (hS : Sim h) : FV g mX0_copyFrom [.ref 36, .ref 26] h (fun h2 => FI g mX8_keep [.ref 44, .int (nI 1)] (q_up h2 36 2 1) (fun r2 h3 => h2 26 0 = r2 ∧ Sim h3)) := by
  obtain ⟨p, n, c, kd, sg, pc, wy, wt, hT, hX, hE, hK1, hK2, hN⟩ := (Sim.iff h).mp hS
  have hn := hT.1.2.2.1
  have hp := hT.1.2.1
  have hE0 := hE
  obtain ⟨⟨t, t0, t1, t2⟩, ⟨b, b1, b2⟩, s1, hq, ho⟩ := hE
  refine eX0_copyFrom_r36_26 (vX0_copyFrom_r36_26_0 ⟨by rw [b1]; exact bi_bool b, ?_⟩)
  generalize hh : (q_up (q_upA (q_upA (q_upA (q_upA (q_up (q_up (q_up h 36 0 (h 26 0)) 36 1 (h 26 1)) 36 3 (h 26 3)) 37 (va_cpy (h 27) (h 37) 0 0 6)) 38 (va_cpy (h 28) (h 38) 0 0 6)) 39 (va_cpy (h 29) (h 39) 0 0 12)) 40 (va_cpy (h 30) (h 40) 0 0 6)) 36 2 1) = h2
  have o2 : Only [36, 37, 38, 39, 40] h h2 := by
    rw [← hh]
    exact (((((((Only.up (by decide)).trans (Only.up (by decide))).trans (Only.up (by decide))).trans (Only.upA (by decide))).trans (Only.upA (by decide))).trans (Only.upA (by decide))).trans (Only.upA (by decide))).trans (Only.up (by decide))
  have c0 : h2 36 0 = h 26 0 ∧ h2 36 1 = h 26 1 ∧ h2 36 3 = h 26 3 ∧ h2 36 2 = 1 := by rw [← hh]; exact ⟨rfl, rfl, rfl, rfl⟩
  have cc : ∀ (f f2 : Nat → Int32) (m j : Nat), j < m → va_cpy f f2 0 0 m j = f j := fun f f2 m j hj => by rw [pk_cpy_in (by omega) (by omega), Nat.zero_add, Nat.sub_zero]
  have c1 : ∀ j, j < 6 → h2 37 j = h 27 j := fun j hj => by rw [← hh]; exact cc _ _ 6 j hj
  have c2 : ∀ j, j < 6 → h2 38 j = h 28 j := fun j hj => by rw [← hh]; exact cc _ _ 6 j hj
  have c3 : ∀ j, j < 12 → h2 39 j = h 29 j := fun j hj => by rw [← hh]; exact cc _ _ 12 j hj
  have c4 : ∀ j, j < 6 → h2 40 j = h 30 j := fun j hj => by rw [← hh]; exact cc _ _ 6 j hj
  clear hh
  refine eX8_keep (vX8_keep_0 (c_inE (br_b' (fun z => absurd z (by decide)) (fun _ => ?_))))
  rw [show (1 : Int32) + nI 1 = nI 2 from rfl]
  refine c_copy (a := 0) (b := 2) (by decide) (by decide) (by decide) (fun h3 o3 v3 w3 => ⟨vp_in_nI (by decide) (by decide), ?_, ?_⟩)
  · have e45 : h3 45 0 = h 45 0 := by rw [w3 0 (by decide), o2 45 (by decide)]
    show h 26 0 = h3 45 0
    rw [e45, t1, show h 45 0 = _ from t2]
  · rw [ix_nI (by decide)]
    have ex : ∀ q, q ∉ [36, 37, 38, 39, 40, 44, 45, 46] → (q_up h3 46 1 1) q = h q := fun q hq2 => by
      have hk2 : q ∉ [36, 37, 38, 39, 40] ∧ q ∉ [45] ∧ q ≠ 44 ∧ q ≠ 46 := by
        simp only [List.mem_cons, List.not_mem_nil, or_false, not_or] at hq2 ⊢
        omega
      rw [q_up_ne hk2.2.2.2, o3.1 q hk2.2.1 hk2.2.2.1, o2 q hk2.1]
    have e44 : ∀ j, (q_up h3 46 1 1) 44 j = h 44 j := fun j => by
      rw [up_cell _ _ _ _ (by decide), o3.2 j (by simp), o2 44 (by decide)]
    have r45 : ∀ j, (j < 54 ∨ 54 + 27 ≤ j) → (q_up h3 46 1 1) 45 j = h 45 j := fun j hj => by
      rw [up_cell _ _ _ _ (by decide), w3 j (by omega), o2 45 (by decide)]
    have x45 : ∀ j, j < 27 → (q_up h3 46 1 1) 45 (54 + j) = h 45 (0 + j) := fun j hj => by
      rw [up_cell _ _ _ _ (by decide), show 54 + j = 27 * 2 + j by omega, v3 j hj, o2 45 (by decide)]
    have hk : KpR (q_up h3 46 1 1) 36 54 1 p n := by
      refine ⟨true, ?_, up_at _ _ _ _, fun _ => hE0.mv hn hp ?_ (fun j hj => ?_) (fun j hj => ?_) (fun j hj => ?_) (fun j hj => ?_) x45⟩
      · rw [up_cell _ _ _ _ (by decide), o3.1 36 (by decide) (by decide)]; exact c0.2.2.2
      · rw [up_cell _ _ _ _ (by decide), o3.1 36 (by decide) (by decide)]; exact ⟨c0.1, c0.2.1, c0.2.2.1⟩
      · rw [up_cell _ _ _ _ (by decide), o3.1 _ (by decide) (by decide)]; exact c1 j hj
      · rw [up_cell _ _ _ _ (by decide), o3.1 _ (by decide) (by decide)]; exact c2 j hj
      · rw [up_cell _ _ _ _ (by decide), o3.1 _ (by decide) (by decide)]; exact c3 j hj
      · rw [up_cell _ _ _ _ (by decide), o3.1 _ (by decide) (by decide)]; exact c4 j hj
    have ho : KpR (q_up h3 46 1 1) 31 27 0 p n := KpR.cg hK1 hn (ex _ (by decide)) (by rw [up_row _ _ _ _ (by decide), o3.1 46 (by decide) (by decide), o2 46 (by decide)]) ⟨ex _ (by decide), ex _ (by decide), ex _ (by decide), ex _ (by decide)⟩ (fun j hj => r45 _ (by omega))
    exact (Sim.iff _).mpr ⟨p, n, c, kd, sg, pc, wy, wt, hT.cg ⟨ex 1 (by decide), ex 2 (by decide), ex 3 (by decide), ex 4 (by decide), ex 5 (by decide), ex 6 (by decide)⟩ ⟨ex 49 (by decide), ex 50 (by decide), ex 51 (by decide), ex 52 (by decide), ex 53 (by decide)⟩ ⟨e44 6, e44 7, e44 13⟩, hX.cg ⟨by rw [ex 7 (by decide)], e44 3, ex 8 (by decide), ex 47 (by decide)⟩, hE0.cg hn (by rw [ex 26 (by decide)]; exact ⟨rfl, rfl, rfl⟩) ⟨ex 27 (by decide), ex 28 (by decide), ex 29 (by decide), ex 30 (by decide)⟩ (fun j hj => r45 _ (by omega)), ho, hk, hN.cg ⟨by rw [ex 41 (by decide)], e44 30, ex 42 (by decide), ex 43 (by decide), ex 60 (by decide)⟩⟩
theorem op_back1 (hS : Sim h) (hb : ¬ h 36 2 = 0) : FV g mX0_copyFrom [.ref 26, .ref 36] h (fun h2 => FI g mX8_back [.ref 44, .int (nI 1)] h2 (fun r2 h3 => h2 26 0 = r2 ∧ Sim h3)) := by
  obtain ⟨p, n, c, kd, sg, pc, wy, wt, hT, hX, hE, hK1, hK2, hN⟩ := (Sim.iff h).mp hS
  have hn := hT.1.2.2.1
  have hp := hT.1.2.1
  have hkk := hK2
  obtain ⟨f, f1, f2, f3⟩ := hkk
  rw [f1, bin0] at hb
  subst hb
  have hE1 := f3 rfl
  have hE0 := hE1
  obtain ⟨⟨t, t0, t1, t2⟩, ⟨b, b1, b2⟩, s1, hq, ho⟩ := hE1
  refine eX0_copyFrom_r26_36 (vX0_copyFrom_r26_36_0 ⟨by rw [b1]; exact bi_bool b, ?_⟩)
  generalize hh : (q_upA (q_upA (q_upA (q_upA (q_up (q_up (q_up h 26 0 (h 36 0)) 26 1 (h 36 1)) 26 3 (h 36 3)) 27 (va_cpy (h 37) (h 27) 0 0 6)) 28 (va_cpy (h 38) (h 28) 0 0 6)) 29 (va_cpy (h 39) (h 29) 0 0 12)) 30 (va_cpy (h 40) (h 30) 0 0 6)) = h2
  have o2 : Only [26, 27, 28, 29, 30] h h2 := by
    rw [← hh]
    exact ((((((Only.up (by decide)).trans (Only.up (by decide))).trans (Only.up (by decide))).trans (Only.upA (by decide))).trans (Only.upA (by decide))).trans (Only.upA (by decide))).trans (Only.upA (by decide))
  have c0 : h2 26 0 = h 36 0 ∧ h2 26 1 = h 36 1 ∧ h2 26 3 = h 36 3 := by rw [← hh]; exact ⟨rfl, rfl, rfl⟩
  have cc : ∀ (f f2 : Nat → Int32) (m j : Nat), j < m → va_cpy f f2 0 0 m j = f j := fun f f2 m j hj => by rw [pk_cpy_in (by omega) (by omega), Nat.zero_add, Nat.sub_zero]
  have c1 : ∀ j, j < 6 → h2 27 j = h 37 j := fun j hj => by rw [← hh]; exact cc _ _ 6 j hj
  have c2 : ∀ j, j < 6 → h2 28 j = h 38 j := fun j hj => by rw [← hh]; exact cc _ _ 6 j hj
  have c3 : ∀ j, j < 12 → h2 29 j = h 39 j := fun j hj => by rw [← hh]; exact cc _ _ 12 j hj
  have c4 : ∀ j, j < 6 → h2 30 j = h 40 j := fun j hj => by rw [← hh]; exact cc _ _ 6 j hj
  clear hh
  refine eX8_back (vX8_back_0 (c_inE (br_b' (fun z => absurd z (by decide)) (fun _ => ⟨vp_in_nI (by decide) (by decide), ?_⟩))))
  rw [ix_nI (by decide), o2 46 (by decide), f2]
  refine ⟨fun _ => ?_, fun z => absurd z (by decide)⟩
  rw [show (1 : Int32) + nI 1 = nI 2 from rfl]
  refine c_copy (a := 2) (b := 0) (by decide) (by decide) (by decide) (fun h3 o3 v3 w3 => ⟨?_, ?_⟩)
  · have e45 := v3 0 (by decide)
    rw [o2 45 (by decide)] at e45
    rw [c0.1, t1]
    exact (e45.trans t2).symm
  · refine Sim.ev hT hX hK1 hK2 hN (fun q hq2 => ?_) (fun j hj => ?_) (fun j hj => ?_) (hE0.mv hn hp ?_ (fun j hj => ?_) (fun j hj => ?_) (fun j hj => ?_) (fun j hj => ?_) (fun j hj => ?_))
    · have hk2 : q ∉ [26, 27, 28, 29, 30] ∧ q ∉ [45] ∧ q ≠ 44 := by
        simp only [evX, List.mem_cons, List.not_mem_nil, or_false, not_or] at hq2 ⊢
        omega
      rw [o3.1 q hk2.2.1 hk2.2.2, o2 q hk2.1]
    · rw [o3.2 j (by simp), o2 44 (by decide)]
    · rw [w3 j (by omega), o2 45 (by decide)]
    · rw [o3.1 26 (by decide) (by decide)]; exact c0
    · rw [o3.1 _ (by decide) (by decide)]; exact c1 j hj
    · rw [o3.1 _ (by decide) (by decide)]; exact c2 j hj
    · rw [o3.1 _ (by decide) (by decide)]; exact c3 j hj
    · rw [o3.1 _ (by decide) (by decide)]; exact c4 j hj
    · have := v3 j hj
      rw [o2 45 (by decide)] at this
      exact this
theorem eth_01 {a : Int32} (h : eth a = true) : a = nI 0 ∨ a = nI 1 := by
  obtain ⟨b, rfl⟩ := eth_of h
  cases b
  · exact Or.inl rfl
  · exact Or.inr rfl
theorem op_keep {a : Int32} (hS : Sim h) : FI g mX7_keep [.ref 0, .int a] h (fun r h1 => FI g mX8_keep [.ref 44, .int a] h1 (fun r2 h2 => r = r2 ∧ Sim h2)) := by
  refine eX7_keep (vX7_keep_0 (c_isEither (br_b' (fun e1 => ?_) (fun e1 => ?_))))
  · exact eX8_keep (vX8_keep_0 (c_inE (br_b' (fun _ => ⟨rfl, hS⟩) (fun z => by rw [e1] at z; cases z))))
  · rcases eth_01 e1 with rfl | rfl
    · exact ⟨fun z => absurd rfl z, fun _ => op_keep0 hS⟩
    · exact ⟨fun _ => op_keep1 hS, fun z => absurd z (by decide)⟩
theorem op_back {a : Int32} (hS : Sim h) : FI g mX7_back [.ref 0, .int a] h (fun r h1 => FI g mX8_back [.ref 44, .int a] h1 (fun r2 h2 => r = r2 ∧ Sim h2)) := by
  refine eX7_back (vX7_back_0 (c_isEither (br_b' (fun e1 => ?_) (fun e1 => ?_))))
  · exact eX8_back (vX8_back_0 (c_inE (br_b' (fun _ => ⟨rfl, hS⟩) (fun z => by rw [e1] at z; cases z))))
  · obtain ⟨p, n, c, kd, sg, pc, wy, wt, hT, hX, hE, hK1, hK2, hN⟩ := (Sim.iff h).mp hS
    obtain ⟨f, f1, f2, -⟩ := hK1
    obtain ⟨f', f1', f2', -⟩ := hK2
    rcases eth_01 e1 with rfl | rfl
    · refine ⟨fun z => absurd rfl z, fun _ => ⟨fun hb => op_back0 hS hb, fun hb => ?_⟩⟩
      rw [f1, bi0] at hb
      subst hb
      exact eX8_back (vX8_back_0 (c_inE (br_b' (fun z => absurd z (by decide)) (fun _ => ⟨vp_in_nI (by decide) (by decide), fun z => absurd (by rw [ix_nI (by decide), f2]; rfl) z, fun _ => ⟨rfl, hS⟩⟩))))
    · refine ⟨fun _ => ⟨fun hb => op_back1 hS hb, fun hb => ?_⟩, fun z => absurd z (by decide)⟩
      rw [f1', bi0] at hb
      subst hb
      exact eX8_back (vX8_back_0 (c_inE (br_b' (fun z => absurd z (by decide)) (fun _ => ⟨vp_in_nI (by decide) (by decide), fun z => absurd (by rw [ix_nI (by decide), f2']; rfl) z, fun _ => ⟨rfl, hS⟩⟩))))
end O6
