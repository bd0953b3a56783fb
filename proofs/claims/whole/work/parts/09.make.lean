/-! rows of constructors: new cells, references put -/
def q_sR (r : List (List (Option Nat))) (k j q : Nat) : List (List (Option Nat)) := r.set k ((r.getD k []).set j (some q))
theorem q_dfl : ∀ (ci : Nat) (C : String) (T : u_T) (N : Nat), CL[ci]? = some (C, T, N) → ∀ j, j < N → defaultValue (q_ty ci j) = if q_isR ci j = true then .null else .int 0
  | 0, _, _, _, h => by cases h; decide
  | 1, _, _, _, h => by cases h; decide
  | 2, _, _, _, h => by cases h; decide
  | 3, _, _, _, h => by cases h; decide
  | 4, _, _, _, h => by cases h; decide
  | 5, _, _, _, h => by cases h; decide
  | 6, _, _, _, h => by cases h; decide
  | 7, _, _, _, h => by cases h; decide
  | 8, _, _, _, h => by cases h; decide
  | n + 9, _, _, _, h => by simp at h
section QWm
variable {g : QG} {md : MD} {pc : Nat} {l : List (Option Value)} {st : List Value} {ph : QH} {ce sl : Nat} {K : Option Int32 → QH → Prop}
theorem q_sR_at {r : List (List (Option Nat))} {k j q : Nat} (hk : k < r.length) : (q_sR r k j q).getD k [] = (r.getD k []).set j (some q) := by
  unfold q_sR
  rw [List.getD_eq_getElem?_getD, List.getElem?_set_self hk]
  rfl
theorem q_sR_ne {r : List (List (Option Nat))} {k j q k2 : Nat} (h : k2 ≠ k) : (q_sR r k j q).getD k2 [] = r.getD k2 [] := by
  unfold q_sR
  rw [List.getD_eq_getElem?_getD, List.getElem?_set_ne (Ne.symm h), List.getD_eq_getElem?_getD]
theorem q_fld_setR {k ci j q : Nat} (hk : k < ph.1.length) (hj : j < (ph.1.getD k []).length) (hr : q_isR ci j = true) : q_fld g (q_sR ph.1 k j q, ph.2) k ci = (q_fld g ph k ci).set j (.ref (q_b g + q)) := by
  apply List.ext_getElem?
  intro i
  unfold q_fld
  by_cases h : i < (CL.getD ci ("", TX0, 0)).2.2
  · rw [List.getElem?_map, List.getElem?_range h]
    by_cases e : i = j
    · subst e
      rw [List.getElem?_set_self (by simpa using h)]
      simp only [Option.map_some, hr, if_true, q_sR_at hk]
      rw [List.getD_eq_getElem?_getD, List.getElem?_set_self hj]
      rfl
    · rw [List.getElem?_set_ne (Ne.symm e), List.getElem?_map, List.getElem?_range h]
      simp only [Option.map_some, q_sR_at hk]
      rw [show ((ph.1.getD k []).set j (some q)).getD i none = (ph.1.getD k []).getD i none from by simp only [List.getD_eq_getElem?_getD, List.getElem?_set_ne (Ne.symm e)]]
  · rw [List.getElem?_eq_none (by simpa using h), List.getElem?_eq_none (by simpa using h)]
theorem q_cel_r {r1 r2 : List (List (Option Nat))} {a : Nat → Nat → Int32} {q : Nat} (e : r1.getD q [] = r2.getD q []) : q_cel g (r1, a) q = q_cel g (r2, a) q := by
  unfold q_cel q_fld
  simp only [e]
theorem QW.putR {idx k j ci q : Nat} (hd : decode (q_c md) pc = .ok (.putfield idx, 3)) (hf : q_F (q_y md).cls idx ci j) (hk : k < ph.1.length) (hs : shp.getD k (9, 0) = (2, ci)) (hq : q < 61) (hr : q_isR ci j = true) (hj : j < (ph.1.getD k []).length) (hn : ∀ a : Nat, narrow (q_ty ci j) (.ref a) = .ref a) (hfit : ∀ a : Nat, fits (q_ty ci j) (.ref a) = true)
    (hfin : ((CL.getD ci ("", TX0, 0)).2.1 j).2.2.2 = true ∧ (q_y md).name = "<init>" ∧ ((CL.getD ci ("", TX0, 0)).2.1 j).1 = (q_y md).cls) (kk : QW g md (pc + 3) l st (q_sR ph.1 k j q, ph.2) ce sl K) : QW g md pc l (.ref q :: .ref k :: st) ph ce sl K := by
  intro p e s m args below meth c H locs ls Q h1 h2 h3 h4 h5
  rw [List.map_cons, List.map_cons, q_tvr g (q_shp_lt hs (by decide)), q_tvr g hq]
  exact q_putw (v := .ref (q_b g + q)) (ph2 := (q_sR ph.1 k j q, ph.2)) hd hf hk hs (hn _) (hfit _) (Or.inr hfin) (by unfold q_sR; simp) (by rw [q_cel_o hs, q_fld_setR hk hj hr]) (fun q2 hq2 => q_cel_r (q_sR_ne hq2)) h1 h2 h3 (fun H2 locs2 h6 => kk p e s m args below meth c H2 locs2 ls Q h1 h2 h6 h4 h5)
theorem q_cel_push {x : List (Option Nat)} {f : Nat → Int32} {j : Nat} (h : j < ph.1.length) : q_cel g (ph.1 ++ [x], q_upA ph.2 ph.1.length f) j = q_cel g ph j := by
  have e1 : (ph.1 ++ [x]).getD j [] = ph.1.getD j [] := by rw [List.getD_eq_getElem?_getD, List.getElem?_append_left h, List.getD_eq_getElem?_getD]
  have e2 : q_upA ph.2 ph.1.length f j = ph.2 j := q_upA_ne (by omega)
  unfold q_cel q_fld
  simp only [e1, e2]
theorem q_at_push (x : List (Option Nat)) : (ph.1 ++ [x]).getD ph.1.length [] = x := by
  rw [List.getD_eq_getElem?_getD, List.getElem?_append_right (Nat.le_refl _), Nat.sub_self]
  rfl
theorem q_grow {s : State} {H H1 : Heap} {locs : List Loc} {x : List (Option Nat)} (h3 : QHR g ph s H locs) (hlt : ph.1.length < 61) (z1 : H1.size = q_b g + ph.1.length + 1) (o1 : ∀ q, q < q_b g + ph.1.length → H1[q]? = H[q]?) (hat : va_at (q_D0 g) CL (q_b g + ph.1.length, q_cel g (ph.1 ++ [x], q_upA ph.2 ph.1.length (fun _ => 0)) ph.1.length) H1) : QHR g (ph.1 ++ [x], q_upA ph.2 ph.1.length (fun _ => 0)) s H1 locs := by
  have hz := h3.1 hlt
  refine ⟨fun _ => by rw [z1, List.length_append]; rfl, fun q hq => by rw [o1 q (by omega)]; exact h3.2.1 q hq, h3.2.2.1, ?_, by rw [z1]; have := h3.2.2.2.2; omega⟩
  rw [← q_pw_push (ph := ph) (ph' := (ph.1 ++ [x], q_upA ph.2 ph.1.length (fun _ => 0))) (by rw [List.length_append]; rfl) rfl (fun j hj => q_cel_push hj)]
  refine (h3.2.2.2.1.kept (fun k y hy => o1 y.1 (by have := (h3.2.2.2.1 k y hy).lt; omega))).app (fun k y hy => ?_)
  have hz : k < 1 := (List.getElem?_eq_some_iff.mp hy).1
  rw [show k = 0 by omega] at hy
  cases hy
  exact hat
theorem QW.new {idx ci n : Nat} {C : String} {T : u_T} {N : Nat} (hd : decode (q_c md) pc = .ok (.new idx, 3)) (hlen : ph.1.length = n) (hlt : n < 61) (hs : shp.getD n (9, 0) = (2, ci)) (hc : CL[ci]? = some (C, T, N)) (hw : Cond.classLink (q_y md).cls idx C ∈ TB ∧ Cond.instantiable C N ∈ TB ∧ Cond.initialized C ∈ TB) (hroom : ce + 1 ≤ (q_r md).cells ∧ sl + N ≤ (q_r md).slots)
    (kk : QW g md (pc + 3) l (.ref n :: st) (ph.1 ++ [List.replicate N none], q_upA ph.2 n (fun _ => 0)) (ce + 1) (sl + N) K) : QW g md pc l st ph ce sl K := by
  intro p e s m args below meth c H locs ls Q h1 h2 h3 h4 h5
  subst hlen
  have hts := h2.2.2.2.2.2.1
  have hK := q_vK h1 h2
  have hKn := hK.1 ci _ hc
  have hz := h3.1 hlt
  refine W.newcK h2.1 h2.2.1 h2.2.2.2.2.1 (hts _ hw.1) (hts _ hw.2.1) (hts _ hw.2.2) rfl hd hroom.1 hroom.2 hKn.2.1 hz fun H1 kC hkC e1 z1 o1 => ?_
  have w := kk p e s m args below meth c H1 locs ls Q h1 h2 (q_grow h3 hlt z1 o1 ?_) h4 h5
  · rw [List.map_cons, q_tvr g hlt] at w
    exact w
  · rw [q_cel_o hs]
    refine ⟨_, hc, (u_born (q_ty ci) hts (q_clw ci C T N hc) hKn hkC e1 (q_clt ci C T N hc)).to (fun j hj => ?_)⟩
    rw [q_dfl ci C T N hc j hj]
    unfold vp_V
    rw [List.getD_eq_getElem?_getD]
    unfold q_fld
    rw [List.getElem?_map, List.getElem?_range (by rw [List.getD_eq_getElem?_getD, hc]; exact hj)]
    simp only [Option.map_some, Option.getD_some, q_at_push, q_upA_at]
    rw [show (List.replicate N (none : Option Nat)).getD j none = none from by rw [List.getD_eq_getElem?_getD, List.getElem?_replicate]; split <;> rfl]
    rfl
theorem QW.newI {n N : Nat} {x : Int32} (hd : decode (q_c md) pc = .ok (.newarray .int, 2)) (hlen : ph.1.length = n) (hlt : n < 61) (hs : shp.getD n (9, 0) = (0, N)) (hx : ¬ x < 0 ∧ x.toNatClampNeg = N) (hN : N ≤ 1000) (ha : Cond.arrayClass .int ∈ TB) (hroom : ce + 1 ≤ (q_r md).cells ∧ sl + N ≤ (q_r md).slots)
    (kk : QW g md (pc + 2) l (.ref n :: st) (ph.1 ++ [[]], q_upA ph.2 n (fun _ => 0)) (ce + 1) (sl + N) K) : QW g md pc l (.int x :: st) ph ce sl K := by
  intro p e s m args below meth c H locs ls Q h1 h2 h3 h4 h5
  subst hlen
  have hts := h2.2.2.2.2.2.1
  have hK := q_vK h1 h2
  have hz := h3.1 hlt
  refine va_newaK (atype := .int) h2.1 h2.2.1 (hts _ ha) rfl hd rfl hx.1 hx.2 (by show N * 4 ≤ _; omega) hroom.1 hroom.2 hz fun H1 cA e1 z1 o1 hAr hNm => ?_
  have hcA : cA = q_cI g := by
    have h9 : s.vm.findClass ("[" ++ FieldType.int.toString) = some (q_cI g) := (hK.2 0 _ rfl).2
    exact Option.some.inj (hNm.symm.trans h9)
  subst hcA
  have w := kk p e s m args below meth c H1 locs ls Q h1 h2 (q_grow h3 hlt z1 o1 ?_) h4 h5
  · rw [List.map_cons, q_tvr g hlt] at w
    exact w
  · rw [q_cel_i hs]
    show H1[q_b g + ph.1.length]? = some (vp_cell _ _)
    rw [e1, vp_cell_i]
    simp only [q_upA_at]
    rfl
theorem QW.newZ {n N : Nat} {x : Int32} (hd : decode (q_c md) pc = .ok (.newarray .boolean, 2)) (hlen : ph.1.length = n) (hlt : n < 61) (hs : shp.getD n (9, 0) = (1, N)) (hx : ¬ x < 0 ∧ x.toNatClampNeg = N) (hN : N ≤ 1000) (ha : Cond.arrayClass .boolean ∈ TB) (hroom : ce + 1 ≤ (q_r md).cells ∧ sl + N ≤ (q_r md).slots)
    (kk : QW g md (pc + 2) l (.ref n :: st) (ph.1 ++ [[]], q_upA ph.2 n (fun _ => 0)) (ce + 1) (sl + N) K) : QW g md pc l (.int x :: st) ph ce sl K := by
  intro p e s m args below meth c H locs ls Q h1 h2 h3 h4 h5
  subst hlen
  have hts := h2.2.2.2.2.2.1
  have hK := q_vK h1 h2
  have hz := h3.1 hlt
  refine va_newaK (atype := .boolean) h2.1 h2.2.1 (hts _ ha) rfl hd rfl hx.1 hx.2 (by show N * 1 ≤ _; omega) hroom.1 hroom.2 hz fun H1 cA e1 z1 o1 hAr hNm => ?_
  have hcA : cA = q_cZ g := by
    have h9 : s.vm.findClass ("[" ++ FieldType.boolean.toString) = some (q_cZ g) := (hK.2 1 _ rfl).2
    exact Option.some.inj (hNm.symm.trans h9)
  subst hcA
  have w := kk p e s m args below meth c H1 locs ls Q h1 h2 (q_grow h3 hlt z1 o1 ?_) h4 h5
  · rw [List.map_cons, q_tvr g hlt] at w
    exact w
  · rw [q_cel_z hs]
    show H1[q_b g + ph.1.length]? = some (vp_cell _ _)
    rw [e1, vp_cell_i]
    simp only [q_upA_at]
    rfl
end QWm
