/-! rows that read and write the pure heap; a method's entry and end -/
theorem q_clw : ∀ (ci : Nat) (C : String) (T : u_T) (N : Nat), CL[ci]? = some (C, T, N) → ∀ w ∈ u_ws C T N, w ∈ TB
  | 0, _, _, _, h => by cases h; exact iw0
  | 1, _, _, _, h => by cases h; exact iw1
  | 2, _, _, _, h => by cases h; exact iw2
  | 3, _, _, _, h => by cases h; exact iw3
  | 4, _, _, _, h => by cases h; exact iw4
  | 5, _, _, _, h => by cases h; exact iw5
  | 6, _, _, _, h => by cases h; exact iw6
  | 7, _, _, _, h => by cases h; exact iw7
  | 8, _, _, _, h => by cases h; exact iw8
  | n + 9, _, _, _, h => by simp at h
def q_ty (ci : Nat) : Nat → FieldType := [tyX0, tyX1, tyX2, tyX3, tyX4, tyX5, tyX6, tyX7, tyX8].getD ci tyX0
theorem q_clt : ∀ (ci : Nat) (C : String) (T : u_T) (N : Nat), CL[ci]? = some (C, T, N) → ∀ k, k < N → parseFieldDescriptor (T k).2.2.1 = some (q_ty ci k)
  | 0, _, _, _, h => by cases h; exact tyX0_ok
  | 1, _, _, _, h => by cases h; exact tyX1_ok
  | 2, _, _, _, h => by cases h; exact tyX2_ok
  | 3, _, _, _, h => by cases h; exact tyX3_ok
  | 4, _, _, _, h => by cases h; exact tyX4_ok
  | 5, _, _, _, h => by cases h; exact tyX5_ok
  | 6, _, _, _, h => by cases h; exact tyX6_ok
  | 7, _, _, _, h => by cases h; exact tyX7_ok
  | 8, _, _, _, h => by cases h; exact tyX8_ok
  | n + 9, _, _, _, h => by simp at h
theorem q_cln : ∀ (ci : Nat) (C : String) (T : u_T) (N : Nat), CL[ci]? = some (C, T, N) → ∀ a, a < N → ∀ b, b < N → a ≠ b → (T a).2.1 ≠ (T b).2.1
  | 0, _, _, _, h => by cases h; exact nmX0
  | 1, _, _, _, h => by cases h; exact nmX1
  | 2, _, _, _, h => by cases h; exact nmX2
  | 3, _, _, _, h => by cases h; exact nmX3
  | 4, _, _, _, h => by cases h; exact nmX4
  | 5, _, _, _, h => by cases h; exact nmX5
  | 6, _, _, _, h => by cases h; exact nmX6
  | 7, _, _, _, h => by cases h; exact nmX7
  | 8, _, _, _, h => by cases h; exact nmX8
  | n + 9, _, _, _, h => by simp at h
theorem q_shp_lt {k a b : Nat} (h : shp.getD k (9, 0) = (a, b)) (ha : a ≠ 9) : k < 61 := by
  rcases Nat.lt_or_ge k 61 with h1 | h1
  · exact h1
  · rw [List.getD_eq_getElem?_getD, List.getElem?_eq_none (show shp.length ≤ k from h1)] at h
    cases h
    exact absurd rfl ha
theorem q_tvr (g : QG) {k : Nat} (h : k < 61) : q_tv g (.ref k) = .ref (q_b g + k) := by
  show Value.ref (if k < 1000 then q_b g + k else q_o g k) = _
  rw [if_pos (by omega)]
theorem q_cel_o {g : QG} {ph : QH} {k ci : Nat} (h : shp.getD k (9, 0) = (2, ci)) : q_cel g ph k = .inr (ci, q_fld g ph k ci) := by
  unfold q_cel; rw [h]; rfl
theorem q_cel_i {g : QG} {ph : QH} {k n : Nat} (h : shp.getD k (9, 0) = (0, n)) : q_cel g ph k = .inl (q_cI g, n, .inl (ph.2 k)) := by
  unfold q_cel; rw [h]; rfl
theorem q_cel_z {g : QG} {ph : QH} {k n : Nat} (h : shp.getD k (9, 0) = (1, n)) : q_cel g ph k = .inl (q_cZ g, n, .inl (ph.2 k)) := by
  unfold q_cel; rw [h]; rfl
theorem q_fld_len {g : QG} {ph : QH} {k ci : Nat} {C : String} {T : u_T} {N : Nat} (hc : CL[ci]? = some (C, T, N)) : (q_fld g ph k ci).length = N := by
  unfold q_fld
  rw [List.length_map, List.length_range, List.getD_eq_getElem?_getD, hc]
  rfl
theorem q_fld_i {g : QG} {ph : QH} {k ci j : Nat} {C : String} {T : u_T} {N : Nat} (hc : CL[ci]? = some (C, T, N)) (hj : j < N) (hr : q_isR ci j = false) : (q_fld g ph k ci)[j]? = some (.int (ph.2 k j)) := by
  unfold q_fld
  rw [List.getElem?_map, List.getElem?_range (by rw [List.getD_eq_getElem?_getD, hc]; exact hj)]
  simp [hr]
theorem q_fld_r {g : QG} {ph : QH} {k ci j q : Nat} {C : String} {T : u_T} {N : Nat} (hc : CL[ci]? = some (C, T, N)) (hj : j < N) (hr : q_isR ci j = true) (hq : (ph.1.getD k []).getD j none = some q) : (q_fld g ph k ci)[j]? = some (.ref (q_b g + q)) := by
  unfold q_fld
  rw [List.getElem?_map, List.getElem?_range (by rw [List.getD_eq_getElem?_getD, hc]; exact hj)]
  simp only [Option.map_some, hr, if_true, hq]
  rfl
section QWh
variable {g : QG} {md : MD} {pc : Nat} {l : List (Option Value)} {st : List Value} {ph : QH} {ce sl : Nat} {K : Option Int32 → QH → Prop}
theorem q_vK {p : Program} {s : State} {m : MethodId} {args : Array Value} {meth : Method} {c : Code} (h1 : QOK g) (h2 : QCx g md p s m args meth c) : va_K (q_D0 g) CL (q_T g) s := va_K.moved h2.2.2.2.2.2.2.2.2.1.alike h1.1
theorem q_vS {p : Program} {s : State} {m : MethodId} {args : Array Value} {meth : Method} {c : Code} {H : Heap} {locs : List Loc} (h2 : QCx g md p s m args meth c) (h3 : QHR g ph s H locs) : va_S (q_A g) s.heap H locs := by
  refine ⟨h3.2.2.2.2, fun q _ hq => ?_, h3.2.2.1⟩
  have hq' : q < q_b g := Nat.not_le.mp hq
  rw [h3.2.1 q hq', h2.2.2.2.2.2.2.2.2.2.1 q hq']
theorem QW.getI {idx k j ci : Nat} (hd : decode (q_c md) pc = .ok (.getfield idx, 3)) (hf : q_F (q_y md).cls idx ci j) (hk : k < ph.1.length) (hs : shp.getD k (9, 0) = (2, ci)) (hr : q_isR ci j = false) (kk : QW g md (pc + 3) l (.int (ph.2 k j) :: st) ph ce sl K) : QW g md pc l (.ref k :: st) ph ce sl K := by
  obtain ⟨C, T, N, hc, hj, hw⟩ := hf
  refine QW.goT (fun p e s m args below meth c H locs ls Q h1 h2 h3 hls w => ?_) kk
  rw [List.map_cons, q_tvr g (q_shp_lt hs (by decide))]
  exact va_get h2.1 h2.2.1 h2.2.2.2.2.2.1 (q_clw ci C T N hc) h2.2.2.2.2.1 (q_vK h1 h2) h3.2.2.2.1 k (by rw [q_pw_at hk, q_cel_o hs]) hc j hj (h2.2.2.2.2.2.1 _ hw) (fun _ h => h) (q_fld_i hc hj hr) hd w
theorem QW.getR {idx k j ci q : Nat} (hd : decode (q_c md) pc = .ok (.getfield idx, 3)) (hf : q_F (q_y md).cls idx ci j) (hk : k < ph.1.length) (hs : shp.getD k (9, 0) = (2, ci)) (hr : q_isR ci j = true) (hq : (ph.1.getD k []).getD j none = some q) (hq61 : q < 61) (kk : QW g md (pc + 3) l (.ref q :: st) ph ce sl K) : QW g md pc l (.ref k :: st) ph ce sl K := by
  obtain ⟨C, T, N, hc, hj, hw⟩ := hf
  refine QW.goT (fun p e s m args below meth c H locs ls Q h1 h2 h3 hls w => ?_) kk
  rw [List.map_cons, q_tvr g (q_shp_lt hs (by decide))]
  rw [List.map_cons, q_tvr g hq61] at w
  exact va_get h2.1 h2.2.1 h2.2.2.2.2.2.1 (q_clw ci C T N hc) h2.2.2.2.2.1 (q_vK h1 h2) h3.2.2.2.1 k (by rw [q_pw_at hk, q_cel_o hs]) hc j hj (h2.2.2.2.2.2.1 _ hw) (fun _ h => h) (q_fld_r hc hj hr hq) hd w
/-- a field's new value: the world behind it -/
theorem q_putw {p : Program} {e : Env} {s : State} {m : MethodId} {args : Array Value} {below : List Frame} {meth : Method} {c : Code} {H : Heap} {locs : List Loc} {ls : Array Slot} {Q : State → Prop} {idx k j ci : Nat} {v : Value} {rest : List Value} (ph2 : QH) (hd : decode (q_c md) pc = .ok (.putfield idx, 3)) (hf : q_F (q_y md).cls idx ci j) (hk : k < ph.1.length) (hs : shp.getD k (9, 0) = (2, ci)) (hn : narrow (q_ty ci j) v = v) (hfit : fits (q_ty ci j) v = true)
    (hfin : ((CL.getD ci ("", TX0, 0)).2.1 j).2.2.2 = false ∨ (((CL.getD ci ("", TX0, 0)).2.1 j).2.2.2 = true ∧ (q_y md).name = "<init>" ∧ ((CL.getD ci ("", TX0, 0)).2.1 j).1 = (q_y md).cls))
    (hl2 : ph2.1.length = ph.1.length) (hc2 : q_cel g ph2 k = .inr (ci, (q_fld g ph k ci).set j v)) (ho2 : ∀ q, q ≠ k → q_cel g ph2 q = q_cel g ph q) (h1 : QOK g) (h2 : QCx g md p s m args meth c) (h3 : QHR g ph s H locs)
    (kk : ∀ (H2 : Heap) (locs2 : List Loc), QHR g ph2 s H2 locs2 → W p (q_l g) e (q_r md) s m args below meth c H2 locs2 ce sl Q (F0 m (pc + 3) ls rest)) : W p (q_l g) e (q_r md) s m args below meth c H locs ce sl Q (F0 m pc ls (v :: .ref (q_b g + k) :: rest)) := by
  obtain ⟨C, T, N, hc, hj, hw⟩ := hf
  have hT : (CL.getD ci ("", TX0, 0)).2.1 = T := by rw [List.getD_eq_getElem?_getD, hc]; rfl
  rw [hT] at hfin
  have hK := q_vK h1 h2
  have hts := h2.2.2.2.2.2.1
  have he : (q_pw g ph)[k]? = some (q_b g + k, .inr (ci, q_fld g ph k ci)) := by rw [q_pw_at hk, q_cel_o hs]
  have hap := va_apart (own := (q_y md).cls) hts (q_clw ci C T N hc) (q_ty ci) (q_clt ci C T N hc) (q_cln ci C T N hc) hK hc
  obtain ⟨r, x1, cell, y1, y2, y3, y4⟩ := h3.2.2.2.1 k _ he
  have hr : r = (C, T, N) := Option.some.inj (x1.symm.trans hc)
  subst hr
  obtain ⟨hSl, hfc, kC, hkC, hkind⟩ := hK.1 ci _ hc
  obtain ⟨cf, kf, fi, f, hi, hsl⟩ := hSl j hj
  have hst := (u_facts hfc hkC (u_lays hts (q_clw ci C T N hc) hj) hi).1
  have hlay := hts _ (q_clw ci C T N hc _ (u_in_lay hj))
  unfold u_lay at hlay
  have fin : ∀ H2 : Heap, H2[q_b g + k]? = some (cell.setSlot f.slot v) → H2.size = H.size → (∀ q, q ≠ q_b g + k → H2[q]? = H[q]?) → QHR g ph2 s H2 (locs ++ [⟨q_b g + k, f.slot⟩]) := by
    intro H2 e1 e2 e3
    refine ⟨fun hlt => by rw [e2, hl2]; exact h3.1 (by omega), fun q hq => by rw [e3 q (by omega)]; exact h3.2.1 q hq, fun q hq => ?_, ?_, by rw [e2]; exact h3.2.2.2.2⟩
    · rcases List.mem_append.mp hq with h | h
      · exact h3.2.2.1 q h
      · rw [List.mem_singleton.mp h]
        show q_b g ≤ q_b g + k
        omega
    · rw [← q_pw_set hl2 hk hc2 ho2]
      refine h3.2.2.2.1.set (q_pw_D g ph) he ?_ e3
      rw [hsl] at e1
      exact ⟨_, hc, t_OB.to (V := updV (vp_V (q_fld g ph k ci)) j v) ⟨_, e1, y2, y3, t_set y4 hap hj v⟩ (fun i _ => vp_updV_set (by rw [q_fld_len hc]; exact hj) v i)⟩
  have hpd := q_clt ci C T N hc j hj
  rcases hfin with hfin | ⟨hfin, hin, hdecl⟩
  · rw [if_neg (by rw [hfin]; decide)] at hlay
    have h6 := u_store hfc hkC hkind hlay hi hpd hn hfit
    exact W.putK h2.1 h2.2.1 (f := f) ⟨h2.2.2.2.2.1, hts _ hw, ⟨_, _, _, hi⟩, hst⟩ (by rw [y2]; exact h6) y1 y3 (by rw [hsl]; exact k2_hasslot (y4 j hj)) rfl rfl hd fun H2 e1 e2 e3 => kk H2 _ (fin H2 e1 e2 e3)
  · rw [if_pos hfin] at hlay
    have hcf : m.cls = cf := by
      obtain ⟨_, _, c', _, _, _, -, -, hf', -, -, -, hown2, -⟩ := Cond.laysFinal_spec hlay
      have e1 : c' = cf := by have := hi.symm.trans hf'; simp at this; exact this.1.symm
      rw [hdecl] at hown2
      rw [← e1]; exact Option.some.inj (h2.2.2.2.2.1.symm.trans hown2)
    have h6 := u_fits hfc hkC hkind (Or.inr hlay) hi hpd hn hfit
    exact W.putFinK h2.1 h2.2.1 h2.2.2.2.2.1 (hts _ hw) hi hst hcf (by rw [h2.2.2.2.2.2.2.2.1]; exact hin) (by rw [y2]; exact h6) y1 y3 (by rw [hsl]; exact k2_hasslot (y4 j hj)) rfl rfl hd fun H2 e1 e2 e3 => kk H2 _ (fin H2 e1 e2 e3)
theorem q_fld_set {k ci j : Nat} {v : Int32} {C : String} {T : u_T} {N : Nat} (hc : CL[ci]? = some (C, T, N)) (hr : q_isR ci j = false) : q_fld g (ph.1, q_up ph.2 k j v) k ci = (q_fld g ph k ci).set j (.int v) := by
  apply List.ext_getElem?
  intro i
  unfold q_fld
  by_cases h : i < (CL.getD ci ("", TX0, 0)).2.2
  · rw [List.getElem?_map, List.getElem?_range h]
    by_cases e : i = j
    · subst e
      rw [List.getElem?_set_self (by simpa using h)]
      simp [hr, q_up, upd]
    · rw [List.getElem?_set_ne (Ne.symm e), List.getElem?_map, List.getElem?_range h]
      simp [q_up, upd, e]
  · rw [List.getElem?_eq_none (by simpa using h), List.getElem?_eq_none (by simpa using h)]
theorem q_up_ne {h : Nat → Nat → Int32} {k j : Nat} {v : Int32} {q : Nat} (e : q ≠ k) : q_up h k j v q = h q := by simp [q_up, e]
theorem q_cel_ne {k : Nat} {r : List (List (Option Nat))} {a b : Nat → Nat → Int32} {q : Nat} (e : a q = b q) : q_cel g (r, a) q = q_cel g (r, b) q := by
  unfold q_cel q_fld
  simp only [e]
theorem QW.putI {idx k j ci : Nat} {v : Int32} (hd : decode (q_c md) pc = .ok (.putfield idx, 3)) (hf : q_F (q_y md).cls idx ci j) (hk : k < ph.1.length) (hs : shp.getD k (9, 0) = (2, ci)) (hr : q_isR ci j = false) (hfin : ((CL.getD ci ("", TX0, 0)).2.1 j).2.2.2 = false) (hn : narrow (q_ty ci j) (.int v) = .int v) (hfit : fits (q_ty ci j) (.int v) = true) (kk : QW g md (pc + 3) l st (ph.1, q_up ph.2 k j v) ce sl K) : QW g md pc l (.int v :: .ref k :: st) ph ce sl K := by
  intro p e s m args below meth c H locs ls Q h1 h2 h3 h4 h5
  have hc := hf
  obtain ⟨C, T, N, hc, -, -⟩ := hc
  rw [List.map_cons, List.map_cons, q_tvr g (q_shp_lt hs (by decide))]
  exact q_putw (v := .int v) (ph2 := (ph.1, q_up ph.2 k j v)) hd hf hk hs hn hfit (Or.inl hfin) rfl (by rw [q_cel_o hs, q_fld_set hc hr]) (fun q hq => q_cel_ne (k := k) (q_up_ne hq)) h1 h2 h3 (fun H2 locs2 h6 => kk p e s m args below meth c H2 locs2 ls Q h1 h2 h6 h4 h5)
end QWh
