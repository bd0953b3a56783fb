/-! calls by contract -/
section QWc
variable {g : QG} {md md2 : MD} {pc : Nat} {l : List (Option Value)} {st stk rest av : List Value} {ph : QH} {ce sl : Nat} {K : Option Int32 → QH → Prop}
theorem q_good (h : Cond.code (q_y md2) (q_c md2) (q_n md2) (q_t md2) ∈ TB) : GoodIn TB (q_w md2) := fun w hw => (List.mem_cons.mp hw).elim (fun e => by rw [e]; exact TB_good _ h) (fun h => TB_good w h)
theorem q_blind (vs : List Value) : FrameBlind (va_Pc vs (QEnt g ph)) := fun _ _ _ _ q => q
theorem q_pre {p : Program} {s : State} {m : MethodId} {args : Array Value} {meth : Method} {c : Code} {H : Heap} {locs : List Loc} (h2 : QCx g md p s m args meth c) (h3 : QHR g ph s H locs) (vs : List Value) : ∀ U : State, U.heap = H → s.WarmedH U.vm → va_Pc vs (QEnt g ph) vs.toArray U := fun U hU hW => by
  subst hU
  exact ⟨rfl, h2.2.2.2.2.2.2.2.2.1.trans hW, h3.1, h3.2.1, (fun _ h => by cases h), h3.2.2.2.1, Nat.le_refl _⟩
abbrev q_post (g : QG) (K : Option Int32 → QH → Prop) : Array Value → State → Outcome → State → Prop := fun _ st o t => ∃ (v : Option Int32) (ph' : QH), o = .returned (v.map Value.int) ∧ K v ph' ∧ QEnt g ph' t ∧ st.heap.size ≤ t.heap.size
theorem q_back {p : Program} {e : Env} {s : State} {m : MethodId} {args : Array Value} {below : List Frame} {meth : Method} {c : Code} {H : Heap} {locs : List Loc} {ls : Array Slot} {Q : State → Prop} {mc ms : Nat} {a : Array Value} {st0 : List Value} (h1 : QOK g) (h2 : QCx g md p s m args meth c) (h3 : QHR g ph s H locs) (h4 : QLR g ls (q_n md) l) (h5 : QRet g md p e s m args below meth c Q K)
    (hr : va_Run p (q_l g) e (q_r md) s m args below meth c H locs ce sl mc ms (F0 m pc ls st0) (rest.map (q_tv g)) (q_post g (fun v ph2 => QW g md (pc + 3) l (v.toList.map Value.int ++ rest) ph2 (ce + mc) (sl + ms) K) a) (q_A g)) : W p (q_l g) e (q_r md) s m args below meth c H locs ce sl Q (F0 m pc ls st0) := by
  intro T hT X
  obtain ⟨v, st₀, t, T', L, e0, X', hL, e1, e2, ⟨v', ph', ev, hK', hE, hsz⟩, stp⟩ := hr T hT X
  have hv : v = v'.map Value.int := by cases ev; rfl
  subst hv
  obtain ⟨t2, a1, b1⟩ := hK' p e s m args below meth c T'.heap (locs ++ L) ls Q h1 h2 ⟨fun h => by rw [e1]; exact hE.2.1 h, fun q hq => by rw [e1]; exact hE.2.2.1 q hq, fun q hq => by
    rcases List.mem_append.mp hq with h | h
    · exact h3.2.2.1 q h
    · exact hL q h, by rw [e1]; exact hE.2.2.2.2.1, by rw [e1]; exact Nat.le_trans h3.2.2.2.2 (by rw [← e0]; exact hsz)⟩ h4 h5 T' rfl X'
  refine ⟨t2, stp t2 ?_, b1⟩
  have es : (v'.toList.map Value.int ++ rest).map (q_tv g) = (v'.map Value.int).toList ++ rest.map (q_tv g) := by cases v' <;> rfl
  rw [es] at a1
  exact a1
theorem q_rest (h : (rest.map fun v => v.category).sum ≤ 8) : ((rest.map (q_tv g)).map fun v => v.category).sum ≤ 8 := by
  rw [List.map_map, show ((fun v => v.category) ∘ q_tv g) = (fun v : Value => v.category) from funext (q_tv_cat g)]
  exact h
abbrev q_room (md md2 : MD) : Prop := (q_r md2).frames + 1 ≤ (q_r md).frames ∧ 8 + (q_n md2 + 11) + (q_r md2).locals ≤ (q_r md).locals
abbrev q_fit (md md2 : MD) (ce sl : Nat) : Prop := ce + (q_r md2).cells ≤ (q_r md).cells ∧ sl + (q_r md2).slots ≤ (q_r md).slots
theorem QW.callV {idx n k ci : Nat} (hstk : stk = av.reverse ++ .ref k :: rest) (hd : decode (q_c md) pc = .ok (.invokevirtual idx, 3)) (hl : q_V (q_y md).cls idx md2 n) (hk : k < ph.1.length) (hs : shp.getD k (9, 0) = (2, ci)) (hci : (CL.getD ci ("", TX0, 0)).1 = (q_y md2).cls) (hci2 : ci < 9) (hn : av.length = n) (hroom : q_room md md2) (hfit : q_fit md md2 ce sl) (hst : (rest.map fun v => v.category).sum ≤ 8)
    (kk : QC g md2 (.ref k :: av) ph (fun v ph2 => QW g md (pc + 3) l (v.toList.map Value.int ++ rest) ph2 (ce + (q_r md2).cells) (sl + (q_r md2).slots) K)) : QW g md pc l stk ph ce sl K := by
  intro p e s m args below meth c H locs ls Q h1 h2 h3 h4 h5
  subst hstk
  have hM := kk h1
  obtain ⟨hw1, ⟨hw2, hw3⟩, ⟨hw4, hw5⟩, hD⟩ := hl
  have hts := h2.2.2.2.2.2.1
  have he : (q_pw g ph)[k]? = some (q_b g + k, .inr (ci, q_fld g ph k ci)) := by rw [q_pw_at hk, q_cel_o hs]
  have hcl : CL[ci]? = some (CL.getD ci ("", TX0, 0)) := by rw [List.getD_eq_getElem?_getD, List.getElem?_eq_getElem (show ci < CL.length from hci2)]; rfl
  have hrc := va_recv (q_vK h1 h2) h3.2.2.2.1 hcl he
  rw [hci] at hrc
  rw [List.map_cons, q_tvr g (q_shp_lt hs (by decide))] at hM
  refine q_back h1 h2 h3 h4 h5 (a := (Value.ref (q_b g + k) :: av.map (q_tv g)).toArray) (va_runV (C := (q_y md2).cls) (b := q_b g + k) (As := av.map (q_tv g)) (n := n) ⟨h2.1, h2.2.1, h2.2.2.2.1, h2.2.2.2.2.1, hts⟩ hM ⟨callB_of n hts (q_good hw5) rfl rfl rfl (hts _ hw4) (hts _ hw1) hD hroom, hts _ hw2, hts _ hw3⟩ ⟨q_blind _, hrc, q_pre h2 h3 _⟩ rfl (by rw [List.length_map]; exact hn) h4.1 ?_ (lv_room (q_rest hst)) hd hfit)
  show ((av.reverse ++ .ref k :: rest).map (q_tv g)) = _
  rw [List.map_append, List.map_reverse, List.map_cons, q_tvr g (q_shp_lt hs (by decide))]
theorem QW.callS {idx n : Nat} (hstk : stk = av.reverse ++ rest) (hd : decode (q_c md) pc = .ok (.invokestatic idx, 3)) (hl : q_S (q_y md).cls idx md2 n) (hn : av.length = n) (hroom : q_room md md2) (hfit : q_fit md md2 ce sl) (hst : (rest.map fun v => v.category).sum ≤ 8)
    (kk : QC g md2 av ph (fun v ph2 => QW g md (pc + 3) l (v.toList.map Value.int ++ rest) ph2 (ce + (q_r md2).cells) (sl + (q_r md2).slots) K)) : QW g md pc l stk ph ce sl K := by
  intro p e s m args below meth c H locs ls Q h1 h2 h3 h4 h5
  subst hstk
  have hM := kk h1
  obtain ⟨hw1, hw2, ⟨hw4, hw5⟩, hD⟩ := hl
  have hts := h2.2.2.2.2.2.1
  refine q_back h1 h2 h3 h4 h5 (a := (av.map (q_tv g)).toArray) (va_runS (As := av.map (q_tv g)) (n := n) ⟨h2.1, h2.2.1, h2.2.2.2.1, h2.2.2.2.2.1, hts⟩ hM ⟨callB_of n hts (q_good hw5) rfl rfl rfl (hts _ hw4) (hts _ hw1) hD hroom, hts _ hw2⟩ ⟨q_blind _, q_pre h2 h3 _⟩ rfl (by rw [List.length_map]; exact hn) h4.1 ?_ (lv_room (q_rest hst)) hd hfit)
  show ((av.reverse ++ rest).map (q_tv g)) = _
  rw [List.map_append, List.map_reverse]
theorem QW.callSN {idx n : Nat} (hstk : stk = av.reverse ++ rest) (hd : decode (q_c md) pc = .ok (.invokestatic idx, 3)) (hl : q_SN (q_y md).cls idx md2 n) (hn : av.length = n) (hroom : q_room md md2) (hfit : q_fit md md2 ce sl) (hst : (rest.map fun v => v.category).sum ≤ 8)
    (kk : QC g md2 av ph (fun v ph2 => QW g md (pc + 3) l (v.toList.map Value.int ++ rest) ph2 (ce + (q_r md2).cells) (sl + (q_r md2).slots) K)) : QW g md pc l stk ph ce sl K := by
  intro p e s m args below meth c H locs ls Q h1 h2 h3 h4 h5
  subst hstk
  have hM := kk h1
  obtain ⟨⟨host, hw1⟩, hw2, ⟨hw4, hw5⟩, hD⟩ := hl
  have hts := h2.2.2.2.2.2.1
  have hnw := (h1.2.1 _ hw1 _ _ _ _ rfl).warmM h2.2.2.2.2.2.2.2.2.1
  refine q_back h1 h2 h3 h4 h5 (a := (av.map (q_tv g)).toArray) (va_runSN (host := host) (As := av.map (q_tv g)) (n := n) ⟨h2.1, h2.2.1, h2.2.2.2.1, h2.2.2.2.2.1, hts⟩ hM ⟨va_cnB n hts (q_good hw5) rfl rfl rfl hnw (hts _ hw4) hD hroom, hts _ hw2, trivial⟩ ⟨q_blind _, q_pre h2 h3 _⟩ rfl (by rw [List.length_map]; exact hn) h4.1 ?_ (lv_room (q_rest hst)) hd hfit)
  show ((av.reverse ++ rest).map (q_tv g)) = _
  rw [List.map_append, List.map_reverse]
theorem QW.callI {idx n k : Nat} (hk : k < 61) (hstk : stk = av.reverse ++ .ref k :: rest) (hd : decode (q_c md) pc = .ok (.invokespecial idx, 3)) (hl : q_I (q_y md).cls idx md2 n) (hnone : q_t md2 = none) (hn : av.length = n) (hroom : q_room md md2) (hfit : q_fit md md2 ce sl) (hst : (rest.map fun v => v.category).sum ≤ 8)
    (kk : QC g md2 (.ref k :: av) ph (fun v ph2 => QW g md (pc + 3) l (v.toList.map Value.int ++ rest) ph2 (ce + (q_r md2).cells) (sl + (q_r md2).slots) K)) : QW g md pc l stk ph ce sl K := by
  intro p e s m args below meth c H locs ls Q h1 h2 h3 h4 h5
  subst hstk
  have hM := kk h1
  obtain ⟨hw1, ⟨hw2, hw3⟩, ⟨hw4, hw5⟩, hD⟩ := hl
  have hts := h2.2.2.2.2.2.1
  rw [List.map_cons, q_tvr g hk] at hM
  have cb := callB_of (R := q_r md) (own := (q_y md).cls) (index := idx) n hts (q_good hw5) rfl rfl rfl (hts _ hw4) (hts _ hw1) hD hroom
  rw [hnone] at cb
  refine q_back h1 h2 h3 h4 h5 (a := (Value.ref (q_b g + k) :: av.map (q_tv g)).toArray) (va_runI (b := q_b g + k) (As := av.map (q_tv g)) (n := n) ⟨h2.1, h2.2.1, h2.2.2.2.1, h2.2.2.2.2.1, hts⟩ hM ⟨cb, hw3, hts _ hw2⟩ ⟨q_blind _, q_pre h2 h3 _⟩ rfl (by rw [List.length_map]; exact hn) h4.1 ?_ (lv_room (q_rest hst)) hd hfit)
  show ((av.reverse ++ .ref k :: rest).map (q_tv g)) = _
  rw [List.map_append, List.map_reverse, List.map_cons, q_tvr g hk]
theorem QW.callIN {idx n k : Nat} (hk : k < 61) (hstk : stk = av.reverse ++ .ref k :: rest) (hd : decode (q_c md) pc = .ok (.invokespecial idx, 3)) (hl : q_IN (q_y md).cls idx md2 n) (hnone : q_t md2 = none) (hn : av.length = n) (hroom : q_room md md2) (hfit : q_fit md md2 ce sl) (hst : (rest.map fun v => v.category).sum ≤ 8)
    (kk : QC g md2 (.ref k :: av) ph (fun v ph2 => QW g md (pc + 3) l (v.toList.map Value.int ++ rest) ph2 (ce + (q_r md2).cells) (sl + (q_r md2).slots) K)) : QW g md pc l stk ph ce sl K := by
  intro p e s m args below meth c H locs ls Q h1 h2 h3 h4 h5
  subst hstk
  have hM := kk h1
  obtain ⟨⟨host, hw1⟩, ⟨hw2, hw3⟩, ⟨hw4, hw5⟩, hD⟩ := hl
  have hts := h2.2.2.2.2.2.1
  have hnw := (h1.2.1 _ hw1 _ _ _ _ rfl).warmM h2.2.2.2.2.2.2.2.2.1
  rw [List.map_cons, q_tvr g hk] at hM
  have cb := va_cnB (R := q_r md) n hts (q_good hw5) rfl rfl rfl hnw (hts _ hw4) hD hroom
  rw [hnone] at cb
  refine q_back h1 h2 h3 h4 h5 (a := (Value.ref (q_b g + k) :: av.map (q_tv g)).toArray) (va_runIN (host := host) (b := q_b g + k) (As := av.map (q_tv g)) (n := n) ⟨h2.1, h2.2.1, h2.2.2.2.1, h2.2.2.2.2.1, hts⟩ hM ⟨cb, hw3, hts _ hw2⟩ ⟨q_blind _, q_pre h2 h3 _⟩ rfl (by rw [List.length_map]; exact hn) h4.1 ?_ (lv_room (q_rest hst)) hd hfit)
  show ((av.reverse ++ .ref k :: rest).map (q_tv g)) = _
  rw [List.map_append, List.map_reverse, List.map_cons, q_tvr g hk]
theorem QW.objInit {idx k : Nat} (hk : k < 61) (hd : decode (q_c md) pc = .ok (.invokespecial idx, 3)) (hw : Cond.methodLink (q_y md).cls idx objectInit ∈ TB ∧ Cond.instanceMethod objectInit ∈ TB ∧ Cond.code objectInit ⟨#[0xb1]⟩ 1 none ∈ TB) (hroom : 1 ≤ (q_r md).frames ∧ 20 ≤ (q_r md).locals) (hst : (st.map fun v => v.category).sum ≤ 8) (kk : QW g md (pc + 3) l st ph ce sl K) : QW g md pc l (.ref k :: st) ph ce sl K := by
  refine QW.goT (fun p e s m args below meth c H locs ls Q h1 h2 h3 hls w => ?_) kk
  have hts := h2.2.2.2.2.2.1
  rw [List.map_cons, q_tvr g hk]
  have hr := lv_room (m := m) (pc := pc) (ls := ls) (rest := .ref (q_b g + k) :: st.map (q_tv g)) (q_rest (g := g) hst)
  exact W.objInit h2.1 h2.2.1 h2.2.2.2.2.1 (hts _ hw.1) (hts _ hw.2.1) (hts _ hw.2.2) rfl (by show ls.size = c.maxLocals; rw [hls, h2.2.2.2.1]) rfl hd hroom.1 (by omega) w
theorem QC.mono {av : List Value} {K2 : Option Int32 → QH → Prop} (h : ∀ v ph2, K v ph2 → K2 v ph2) (k : QC g md av ph K) : QC g md av ph K2 := by
  intro h1 p e ha hc hk s m args below hf hap hP hK
  obtain ⟨n, o, w1, w2, w3, ⟨⟨v, ph2, e1, e2, e3⟩, e4⟩⟩ := k h1 p e ha hc hk s m args below hf hap hP hK
  exact ⟨n, o, w1, w2, w3, ⟨v, ph2, e1, h v ph2 e2, e3⟩, e4⟩
end QWc
