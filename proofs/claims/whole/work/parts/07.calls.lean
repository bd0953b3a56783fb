/-! arrays, the script, a method's entry, its end, its calls -/
section QWa
variable {g : QG} {md : MD} {pc : Nat} {l : List (Option Value)} {st : List Value} {ph : QH} {ce sl : Nat} {K : Option Int32 → QH → Prop}
theorem QW.iald {k n : Nat} {i : Int32} (hd : decode (q_c md) pc = .ok (.iaload, 1)) (hk : k < ph.1.length) (hs : shp.getD k (9, 0) = (0, n)) (hin : vp_in i n) (kk : QW g md (pc + 1) l (.int (ph.2 k i.toNatClampNeg) :: st) ph ce sl K) : QW g md pc l (.int i :: .ref k :: st) ph ce sl K := by
  refine QW.goT (fun p e s m args below meth c H locs ls Q h1 h2 h3 hls w => ?_) kk
  rw [List.map_cons, List.map_cons, q_tvr g (q_shp_lt hs (by decide))]
  exact va_iald h2.1 h2.2.1 (q_vK h1 h2) h3.2.2.2.1 k 0 (by rw [q_pw_at hk, q_cel_i hs]) rfl hin hd w
theorem QW.zald {k n : Nat} {i : Int32} (hd : decode (q_c md) pc = .ok (.baload, 1)) (hk : k < ph.1.length) (hs : shp.getD k (9, 0) = (1, n)) (hin : vp_in i n) (kk : QW g md (pc + 1) l (.int (ph.2 k i.toNatClampNeg) :: st) ph ce sl K) : QW g md pc l (.int i :: .ref k :: st) ph ce sl K := by
  refine QW.goT (fun p e s m args below meth c H locs ls Q h1 h2 h3 hls w => ?_) kk
  rw [List.map_cons, List.map_cons, q_tvr g (q_shp_lt hs (by decide))]
  exact va_zald h2.1 h2.2.1 (q_vK h1 h2) h3.2.2.2.1 k 1 (by rw [q_pw_at hk, q_cel_z hs]) rfl hin hd w
theorem QW.alen {k n : Nat} {v : Int32} (hd : decode (q_c md) pc = .ok (.arraylength, 1)) (hk : k < ph.1.length) (hs : shp.getD k (9, 0) = (0, n)) (hv : Int32.ofNat n = v) (kk : QW g md (pc + 1) l (.int v :: st) ph ce sl K) : QW g md pc l (.ref k :: st) ph ce sl K := by
  refine QW.goT (fun p e s m args below meth c H locs ls Q h1 h2 h3 hls w => ?_) kk
  rw [List.map_cons, q_tvr g (q_shp_lt hs (by decide))]
  exact va_alen h2.1 h2.2.1 (q_vK h1 h2) h3.2.2.2.1 k 0 (by rw [q_pw_at hk, q_cel_i hs]) rfl hv hd w
theorem q_up_at (h : Nat → Nat → Int32) (k j : Nat) (v : Int32) : q_up h k j v k = upd (h k) j v := by simp [q_up]
theorem q_upA_at (h : Nat → Nat → Int32) (k : Nat) (f : Nat → Int32) : q_upA h k f k = f := by simp [q_upA]
theorem q_upA_ne {h : Nat → Nat → Int32} {k : Nat} {f : Nat → Int32} {q : Nat} (e : q ≠ k) : q_upA h k f q = h q := by simp [q_upA, e]
theorem QW.iast {k n : Nat} {i x : Int32} (hd : decode (q_c md) pc = .ok (.iastore, 1)) (hk : k < ph.1.length) (hs : shp.getD k (9, 0) = (0, n)) (hin : vp_in i n) (kk : QW g md (pc + 1) l st (ph.1, q_up ph.2 k i.toNatClampNeg x) ce sl K) : QW g md pc l (.int x :: .int i :: .ref k :: st) ph ce sl K := by
  intro p e s m args below meth c H locs ls Q h1 h2 h3 h4 h5
  rw [List.map_cons, List.map_cons, List.map_cons, q_tvr g (q_shp_lt hs (by decide))]
  have he : (q_pw g ph)[k]? = some (q_b g + k, .inl (q_cI g, n, .inl (ph.2 k))) := by rw [q_pw_at hk, q_cel_i hs]
  refine W.iast h2.1 h2.2.1 (h3.2.2.2.1 k _ he) (((q_vK h1 h2).2 0 _ rfl).1 n (fun j => .int (ph.2 k j))) (fun q => by cases q) (by show ¬ (i < 0 ∨ (arrV _ _ _).slots.size ≤ _); rw [arrV_size]; exact hin) rfl rfl hd fun H1 e1 z oq => ?_
  refine kk p e s m args below meth c H1 _ ls Q h1 h2 ⟨fun hlt => by rw [z]; exact h3.1 hlt, fun q hq => by rw [oq q (show q ≠ q_b g + k by omega)]; exact h3.2.1 q hq, fun q hq => ?_, ?_, by rw [z]; exact h3.2.2.2.2⟩ h4 h5
  · rcases List.mem_append.mp hq with h | h
    · exact h3.2.2.1 q h
    · rw [List.mem_singleton.mp h]
      show q_b g ≤ q_b g + k
      omega
  · rw [← q_pw_set (ph := ph) (ph' := (ph.1, q_up ph.2 k i.toNatClampNeg x)) (k := k) (E := .inl (q_cI g, n, .inl (upd (ph.2 k) i.toNatClampNeg x))) rfl hk (by rw [q_cel_i hs]; simp only [q_up_at]) (fun q hq => q_cel_ne (k := k) (q_up_ne hq))]
    refine h3.2.2.2.1.set (q_pw_D g ph) he ?_ oq
    show H1[q_b g + k]? = some (vp_cell _ _)
    rw [e1, vp_cell_i, vp_cell_i, arrV_store]
    congr 2
    funext q
    by_cases hq : q = i.toNatClampNeg
    · subst hq
      simp [updV, upd]
    · simp [updV, upd, hq]
theorem q_fullw {p : Program} {s : State} {m : MethodId} {args : Array Value} {meth : Method} {c : Code} {H1 : Heap} {locs1 : List Loc} {k : Nat} {E : va_E} {h2' : Nat → Nat → Int32} (hf : ph.1.length = 61) (hk : k < ph.1.length) (hc : QCx g md p s m args meth c) (he : q_cel g (ph.1, h2') k = E) (ho : ∀ q, q ≠ k → q_cel g (ph.1, h2') q = q_cel g ph q) (hP : va_P (q_D0 g) CL ((q_pw g ph).set k (q_b g + k, E)) H1) (hS : va_S (q_A g) s.heap H1 locs1) : QHR g (ph.1, h2') s H1 locs1 := by
  refine ⟨fun h => by have : ph.1.length < 61 := h; omega, fun q hq => ?_, hS.2.2, ?_, hS.1⟩
  · rw [hS.2.1 q (Nat.lt_of_lt_of_le hq hc.2.2.2.2.2.2.2.2.2.2) (Nat.not_le.mpr hq)]
    exact hc.2.2.2.2.2.2.2.2.2.1 q hq
  · rw [← q_pw_set (ph := ph) (ph' := (ph.1, h2')) (k := k) (E := E) rfl hk he ho]
    exact hP
theorem QW.zast {k n : Nat} {i x : Int32} (hf : ph.1.length = 61) (hd : decode (q_c md) pc = .ok (.bastore, 1)) (hs : shp.getD k (9, 0) = (1, n)) (hin : vp_in i n) (hx : vp_nar .boolean x = x) (kk : QW g md (pc + 1) l st (ph.1, q_up ph.2 k i.toNatClampNeg x) ce sl K) : QW g md pc l (.int x :: .int i :: .ref k :: st) ph ce sl K := by
  intro p e s m args below meth c H locs ls Q h1 h2 h3 h4 h5
  have hk : k < ph.1.length := by rw [hf]; exact q_shp_lt hs (by decide)
  rw [List.map_cons, List.map_cons, List.map_cons, q_tvr g (q_shp_lt hs (by decide))]
  have he : (q_pw g ph)[k]? = some (q_b g + k, .inl (q_cZ g, n, .inl (ph.2 k))) := by rw [q_pw_at hk, q_cel_z hs]
  refine va_zast h2.1 h2.2.1 (q_vK h1 h2) h3.2.2.2.1 (q_pw_D g ph) (q_vS h2 h3) k 1 he rfl hin hd fun H1 locs1 hP1 hD1 hS1 => ?_
  rw [hx] at hP1
  exact kk p e s m args below meth c H1 locs1 ls Q h1 h2 (q_fullw hf hk h2 (by rw [q_cel_z hs]; simp only [q_up_at]) (fun q hq => q_cel_ne (k := k) (q_up_ne hq)) hP1 hS1) h4 h5
theorem QW.copy {idx k0 k1 n0 n1 : Nat} {sp dp n : Int32} (hf : ph.1.length = 61) (hd : decode (q_c md) pc = .ok (.invokestatic idx, 3)) (hw : (Cond.methodLink (q_y md).cls idx arraycopyName ∈ TB) ∧ Cond.native arraycopyName ∈ TB ∧ Cond.static arraycopyName ∈ TB ∧ Cond.initialized "java/lang/System" ∈ TB) (hs0 : shp.getD k0 (9, 0) = (0, n0)) (hs1 : shp.getD k1 (9, 0) = (0, n1)) (h1 : ¬ sp < 0) (h2 : ¬ dp < 0) (h3 : ¬ n < 0) (h4 : sp.toNatClampNeg + n.toNatClampNeg ≤ n0) (h5 : dp.toNatClampNeg + n.toNatClampNeg ≤ n1)
    (hframes : 1 ≤ (q_r md).frames) (hlocals : (st.map fun v => v.category).sum + (nativeFrameWords "java/lang/System" "arraycopy" 5 + 11) ≤ (q_r md).locals) (kk : QW g md (pc + 3) l st (ph.1, q_upA ph.2 k1 (va_cpy (ph.2 k0) (ph.2 k1) sp.toNatClampNeg dp.toNatClampNeg n.toNatClampNeg)) ce sl K) : QW g md pc l (.int n :: .int dp :: .ref k1 :: .int sp :: .ref k0 :: st) ph ce sl K := by
  intro p e s m args below meth c H locs ls Q g1 g2 g3 g4 g5
  have hk0 : k0 < ph.1.length := by rw [hf]; exact q_shp_lt hs0 (by decide)
  have hk1 : k1 < ph.1.length := by rw [hf]; exact q_shp_lt hs1 (by decide)
  have hts := g2.2.2.2.2.2.1
  simp only [List.map_cons]
  rw [q_tvr g (q_shp_lt hs0 (by decide)), q_tvr g (q_shp_lt hs1 (by decide))]
  have he0 : (q_pw g ph)[k0]? = some (q_b g + k0, .inl (q_cI g, n0, .inl (ph.2 k0))) := by rw [q_pw_at hk0, q_cel_i hs0]
  have he1 : (q_pw g ph)[k1]? = some (q_b g + k1, .inl (q_cI g, n1, .inl (ph.2 k1))) := by rw [q_pw_at hk1, q_cel_i hs1]
  have hcat : (((st.map (q_tv g)).map fun v => v.category)) = (st.map fun v => v.category) := by rw [List.map_map]; exact List.map_congr_left (fun v _ => q_tv_cat g v)
  refine va_copyi g2.1 g2.2.1 (g2.2.2.2.1.trans g4.1.symm) g2.2.2.2.2.1 (hts _ hw.1) (hts _ hw.2.1) (hts _ hw.2.2.1) (hts _ hw.2.2.2) (q_vK g1 g2) g3.2.2.2.1 (q_pw_D g ph) (q_vS g2 g3) k0 k1 0 0 he0 he1 rfl rfl rfl h1 h2 h3 h4 h5 (fun _ _ => rfl) hframes (by rw [hcat]; exact hlocals) hd fun H1 locs1 hP1 hD1 hS1 => ?_
  exact kk p e s m args below meth c H1 locs1 ls Q g1 g2 (q_fullw hf hk1 g2 (by rw [q_cel_i hs1]; simp only [q_upA_at]) (fun q hq => q_cel_ne (k := k1) (q_upA_ne hq)) hP1 hS1) g4 g5
/-- the law's own script, the old cell 1000 -/
theorem q_vX {p : Program} {s : State} {m : MethodId} {args : Array Value} {meth : Method} {c : Code} (h1 : QOK g) (h2 : QCx g md p s m args meth c) : va_X (q_o g 1000) (q_L g) (q_x g) s s.heap := (h1.2.2.1.moved h2.2.2.2.2.2.2.2.2.1.alike).kept (h2.2.2.2.2.2.2.2.2.2.1 _ h1.2.2.2.1)
theorem QW.sld {i : Int32} (hd : decode (q_c md) pc = .ok (.iaload, 1)) (hin : vp_in i (q_L g)) (kk : QW g md (pc + 1) l (.int (q_x g i.toNatClampNeg) :: st) ph ce sl K) : QW g md pc l (.int i :: .ref 1000 :: st) ph ce sl K :=
  QW.goT (fun p e s m args below meth c H locs ls Q h1 h2 h3 hls w => va_sld h2.1 h2.2.1 (q_vX h1 h2) (Nat.lt_of_lt_of_le h1.2.2.2.1 h2.2.2.2.2.2.2.2.2.2.2) (Nat.not_le.mpr h1.2.2.2.1) (q_vS h2 h3) hin hd w) kk
theorem QW.slen (hd : decode (q_c md) pc = .ok (.arraylength, 1)) (kk : QW g md (pc + 1) l (.int (Int32.ofNat (q_L g)) :: st) ph ce sl K) : QW g md pc l (.ref 1000 :: st) ph ce sl K :=
  QW.goT (fun p e s m args below meth c H locs ls Q h1 h2 h3 hls w => va_slen h2.1 h2.2.1 (q_vX h1 h2) (Nat.lt_of_lt_of_le h1.2.2.2.1 h2.2.2.2.2.2.2.2.2.2.2) (Nat.not_le.mpr h1.2.2.2.1) (q_vS h2 h3) hd w) kk
theorem QW.ldc {idx : Nat} {v : Int32} (hd : decode (q_c md) pc = .ok (.ldc idx, 2)) (hw : Cond.constant (q_y md).cls idx v ∈ TB) (kk : QW g md (pc + 2) l (.int v :: st) ph ce sl K) : QW g md pc l st ph ce sl K :=
  QW.goT (fun p e s m args below meth c H locs ls Q h1 h2 h3 hls w => lv_ldc h2.1 h2.2.1 h2.2.2.2.2.1 (h2.2.2.2.2.2.1 _ hw) hd w) kk
theorem QW.ldcw {idx : Nat} {v : Int32} (hd : decode (q_c md) pc = .ok (.ldc_w idx, 3)) (hw : Cond.constant (q_y md).cls idx v ∈ TB) (kk : QW g md (pc + 3) l (.int v :: st) ph ce sl K) : QW g md pc l st ph ce sl K :=
  QW.goT (fun p e s m args below meth c H locs ls Q h1 h2 h3 hls w => lv_ldcw h2.1 h2.2.1 h2.2.2.2.2.1 (h2.2.2.2.2.2.1 _ hw) hd w) kk
theorem QW.ldc2 {idx : Nat} {v : Int64} (hd : decode (q_c md) pc = .ok (.ldc2_w idx, 3)) (hw : Cond.constantLong (q_y md).cls idx v ∈ TB) (kk : QW g md (pc + 3) l (.long v :: st) ph ce sl K) : QW g md pc l st ph ce sl K :=
  QW.goT (fun p e s m args below meth c H locs ls Q h1 h2 h3 hls w => lv_ldc2 h2.1 h2.2.1 h2.2.2.2.2.1 (h2.2.2.2.2.2.1 _ hw) hd w) kk
theorem QW.ldcS {idx i : Nat} (hy : (q_y md).cls = RX5) (hi : i < 8) (he : q_strI.getD i 0 = idx) (hd : decode (q_c md) pc = .ok (.ldc idx, 2)) (kk : QW g md (pc + 2) l (.ref (2000 + i) :: st) ph ce sl K) : QW g md pc l st ph ce sl K := by
  refine QW.goT (fun p e s m args below meth c H locs ls Q h1 h2 h3 hls w => ?_) kk
  have h9 := (h1.2.2.2.2.1 i hi).warm h2.2.2.2.2.2.2.2.2.1
  rw [he] at h9
  rw [List.map_cons, show q_tv g (.ref (2000 + i)) = .ref (q_o g (2000 + i)) from by show Value.ref (if 2000 + i < 1000 then _ else _) = _; rw [if_neg (by omega)]] at w
  exact va_ldcS h2.1 h2.2.1 (hy ▸ h2.2.2.2.2.1) h9 hd w
theorem QW.ireturn {x : Int32} (hd : decode (q_c md) pc = .ok (.ireturn, 1)) (hc : ce = (q_r md).cells ∧ sl = (q_r md).slots) (ht : ∃ ty, q_t md = some ty ∧ narrow ty (.int x) = .int x) (k : K (some x) ph) : QW g md pc l [.int x] ph ce sl K := fun p e s m args below meth c H locs ls Q h1 h2 h3 h4 h5 => by
  obtain ⟨rfl, rfl⟩ := hc
  exact h5 ph H locs ls pc (some x) h3 k ⟨ht, hd⟩
theorem QW.ret (hd : decode (q_c md) pc = .ok (.return_, 1)) (hc : ce = (q_r md).cells ∧ sl = (q_r md).slots) (ht : q_t md = none) (k : K none ph) : QW g md pc l [] ph ce sl K := fun p e s m args below meth c H locs ls Q h1 h2 h3 h4 h5 => by
  obtain ⟨rfl, rfl⟩ := hc
  exact h5 ph H locs ls pc none h3 k ⟨ht, hd⟩
end QWa
/-- the locals at a method's entry -/
def q_ent : List Value → List (Option Value)
  | [] => []
  | v :: vs => if v.category = 2 then some v :: none :: q_ent vs else some v :: q_ent vs
theorem q_ent_len (g : QG) : ∀ vs : List Value, (lg_sl (vs.map (q_tv g))).length = (q_ent vs).length
  | [] => rfl
  | v :: vs => by
    have ih := q_ent_len g vs
    show (lg_sl (q_tv g v :: vs.map (q_tv g))).length = _
    unfold lg_sl q_ent
    rw [List.flatMap_cons, List.length_append, q_tv_cat]
    unfold lg_sl at ih
    by_cases h : v.category = 2
    · rw [if_pos h, if_pos h]; simp [ih]; omega
    · rw [if_neg h, if_neg h]; simp [ih]; omega
theorem q_ent_at (g : QG) : ∀ (vs : List Value) (i0 i : Nat) (v : Value), (q_ent vs)[i]? = some (some v) → (i0 + i, q_tv g v) ∈ lv_args i0 (vs.map (q_tv g))
  | [], i0, i, v, h => by simp [q_ent] at h
  | w :: vs, i0, i, v, h => by
    unfold q_ent at h
    rw [List.map_cons]
    unfold lv_args
    rw [q_tv_cat]
    by_cases hc : w.category = 2
    · rw [if_pos hc] at h ⊢
      match i, h with
      | 0, h =>
        rw [List.getElem?_cons_zero] at h
        cases h
        exact List.mem_cons_self
      | 1, h => simp at h
      | i + 2, h =>
        rw [List.getElem?_cons_succ, List.getElem?_cons_succ] at h
        have := q_ent_at g vs (i0 + 2) i v h
        exact List.mem_cons_of_mem _ (by rw [show i0 + (i + 2) = i0 + 2 + i by omega]; exact this)
    · rw [if_neg hc] at h ⊢
      match i, h with
      | 0, h =>
        rw [List.getElem?_cons_zero] at h
        cases h
        exact List.mem_cons_self
      | i + 1, h =>
        rw [List.getElem?_cons_succ] at h
        have := q_ent_at g vs (i0 + 1) i v h
        exact List.mem_cons_of_mem _ (by rw [show i0 + (i + 1) = i0 + 1 + i by omega]; exact this)
theorem QLR.entry {g : QG} {vs : List Value} {n : Nat} (h : (q_ent vs).length ≤ n) (k : Nat) : QLR g ((lg_sl (vs.map (q_tv g)) ++ List.replicate (n - (lg_sl (vs.map (q_tv g))).length) Slot.unset).toArray) n (q_ent vs ++ List.replicate k none) := by
  have h1 := lv_entry (vs.map (q_tv g)) (n := n) (by rw [q_ent_len]; exact h)
  refine ⟨h1.1, h1.2.1, fun i v hv => ?_⟩
  have hv2 : (q_ent vs)[i]? = some (some v) := by
    by_cases hi : i < (q_ent vs).length
    · rw [List.getElem?_append_left hi] at hv
      exact hv
    · rw [List.getElem?_append_right (by omega), List.getElem?_replicate] at hv
      split at hv <;> cases hv
  have := q_ent_at g vs 0 i v hv2
  rw [Nat.zero_add] at this
  exact h1.2.2 _ this
theorem QC.of {g : QG} {md : MD} {av : List Value} {ph : QH} {K : Option Int32 → QH → Prop} (hy : plainFor (q_y md) = true) (hl : (q_ent av).length ≤ q_n md) (h : QW g md 0 (q_ent av ++ List.replicate (q_n md - (q_ent av).length) none) [] ph 0 0 K) : QC g md av ph K := by
  intro hG
  refine va_MetF (cc := q_c md) (maxL := q_n md) (ret := q_t md) hy rfl ?_
  intro p e s m args below meth c s₁ B hml hv
  obtain ⟨rfl, hW, hH⟩ := hv
  have hts : ∀ w ∈ q_w md, w.before (av.map (q_tv g)).toArray s = true := atoms_spec (ws := q_w md) B.pre
  rw [lg_entry_eq]
  refine h p e s m _ below meth c s.heap [] _ _ hG ⟨B.exec, B.bytes, B.returns, hml, findClass_of_methodNamed B.named, fun w hw => hts w (List.mem_cons_of_mem _ hw), B.notSynchronized, (name_of_methodNamed B.named B.method).1, hW, hH.2.1, ?_⟩ hH (QLR.entry hl _) ?_
  · have := hH.2.2.2.1
    rcases Nat.lt_or_ge ph.1.length 61 with h9 | h9
    · have := hH.1 h9
      omega
    · have h0 : 0 < ph.1.length := by omega
      have := (hH.2.2.2.1 0 _ (q_pw_at h0)).lt
      have h2 : q_b g + 0 < s.heap.size := this
      omega
  · intro ph2 H2 locs2 ls2 pc2 v h3 hk hv
    have hq : ∀ t : State, t.heap = H2 → s.WarmedH t.vm → ∃ (v' : Option Int32) (ph' : QH), Outcome.returned (v.map Value.int) = .returned (v'.map Value.int) ∧ K v' ph' ∧ QEnt g ph' t ∧ s.heap.size ≤ t.heap.size := by
      intro t ht hWt
      subst ht
      refine ⟨v, ph2, rfl, hk, ⟨hW.trans hWt, h3.1, h3.2.1, (fun q hq => by cases hq), h3.2.2.2.1, Nat.le_refl _⟩, h3.2.2.2.2⟩
    cases v with
    | none => exact W.vret B.exec B.bytes (B.returns.trans hv.1) (fun t ht hWt => hq t ht hWt) (fun q hq2 => h3.2.2.1 q hq2) hv.2 B.notSynchronized
    | some x =>
      obtain ⟨⟨ty, ht, hn⟩, hd⟩ := hv
      exact W.zret B.exec B.bytes (B.returns.trans ht) hn (fun t ht hWt => hq t ht hWt) (fun q hq2 => h3.2.2.1 q hq2) hd B.notSynchronized
