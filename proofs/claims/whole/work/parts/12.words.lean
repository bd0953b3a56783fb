/-! a call on a String constant; the words of arraycopy and of Object.<init> -/
theorem q_vStr {g : QG} {md : MD} {p : Program} {s : State} {m : MethodId} {args : Array Value} {meth : Method} {c : Code} (h1 : QOK g) (h2 : QCx g md p s m args meth c) : vk_S 8 q_strL q_strB (fun i => q_o g (2000 + i)) (fun i => q_o g (3000 + i)) (q_A g) s s.heap :=
  (h1.2.2.2.2.2.1.moved h2.2.2.2.2.2.2.2.2.1.alike).kept (fun a _ hA => h2.2.2.2.2.2.2.2.2.2.1 a (Nat.not_le.mp hA))
theorem q_tvo (g : QG) {k : Nat} (h : 1000 ≤ k) : q_tv g (.ref k) = .ref (q_o g k) := by
  show Value.ref (if k < 1000 then q_b g + k else q_o g k) = _
  rw [if_neg (by omega)]
theorem FW.callTi {g : QG} {md md2 : MD} {pc : Nat} {l : List (Option Value)} {stk : List Value} {h : Hp} {KK : Option Int32 → QH → Prop} {idx n i : Nat} (hi : i < 8) (av rest : List Value) (hstk : stk = av.reverse ++ .ref (2000 + i) :: rest) (hd : decode (q_c md) pc = .ok (.invokevirtual idx, 3)) (hl : q_V (q_y md).cls idx md2 n) (hn : av.length = n) (hroom : q_room md md2) (h0 : q_none md2) (hst : (rest.map fun v => v.category).sum ≤ 8)
    (kk : FI g md2 (.ref (2000 + i) :: av) h (fun x h2 => FW g md (pc + 3) l (.int x :: rest) h2 KK)) (hy : (q_y md2).cls = "java/lang/String" := by rfl) : FW g md pc l stk h KK := by
  intro p e s m args below meth c H locs ls Q h1 h2 h3 h4 h5
  subst hstk
  have hM := QC.mono (q_ci h0) kk h1
  obtain ⟨hw1, ⟨hw2, hw3⟩, ⟨hw4, hw5⟩, hD⟩ := hl
  have hts := h2.2.2.2.2.2.1
  have hrc := vk_recv (q_vStr h1 h2) hi (q_vS h2 h3)
  rw [← hy] at hrc
  rw [List.map_cons, q_tvo g (by omega)] at hM
  refine q_back h1 h2 h3 h4 h5 (a := (Value.ref (q_o g (2000 + i)) :: av.map (q_tv g)).toArray) (va_runV (C := (q_y md2).cls) (b := q_o g (2000 + i)) (As := av.map (q_tv g)) (n := n) ⟨h2.1, h2.2.1, h2.2.2.2.1, h2.2.2.2.2.1, hts⟩ hM ⟨callB_of n hts (q_good hw5) rfl rfl rfl (hts _ hw4) (hts _ hw1) hD hroom, hts _ hw2, hts _ hw3⟩ ⟨q_blind _, hrc, q_pre h2 h3 _⟩ rfl (by rw [List.length_map]; exact hn) h4.1 ?_ (lv_room (q_rest hst)) hd (q_fit0 h0))
  show ((av.reverse ++ .ref (2000 + i) :: rest).map (q_tv g)) = _
  rw [List.map_append, List.map_reverse, List.map_cons, q_tvo g (by omega)]
theorem ly_rest : Cond.native arraycopyName ∈ TB ∧ Cond.static arraycopyName ∈ TB ∧ Cond.initialized "java/lang/System" ∈ TB := ⟨TB_at 375 (by decide +kernel) (by decide), TB_at 374 (by decide +kernel) (by decide), TB_at 59 (by decide +kernel) (by decide)⟩
set_option maxRecDepth 20000 in
theorem lo_rest : Cond.instanceMethod objectInit ∈ TB ∧ Cond.code objectInit ⟨#[0xb1]⟩ 1 none ∈ TB := ⟨TB_at 72 (by decide +kernel) (by decide), TB_at 73 (by rfl) (by decide)⟩
theorem loX7_1 : Cond.methodLink RX7 1 objectInit ∈ TB ∧ Cond.instanceMethod objectInit ∈ TB ∧ Cond.code objectInit ⟨#[0xb1]⟩ 1 none ∈ TB := ⟨TB_at 71 (by decide +kernel) (by decide), lo_rest⟩
theorem loX6_3 : Cond.methodLink RX6 3 objectInit ∈ TB ∧ Cond.instanceMethod objectInit ∈ TB ∧ Cond.code objectInit ⟨#[0xb1]⟩ 1 none ∈ TB := ⟨TB_at 79 (by decide +kernel) (by decide), lo_rest⟩
theorem loX5_3 : Cond.methodLink RX5 3 objectInit ∈ TB ∧ Cond.instanceMethod objectInit ∈ TB ∧ Cond.code objectInit ⟨#[0xb1]⟩ 1 none ∈ TB := ⟨TB_at 135 (by decide +kernel) (by decide), lo_rest⟩
theorem loX3_3 : Cond.methodLink RX3 3 objectInit ∈ TB ∧ Cond.instanceMethod objectInit ∈ TB ∧ Cond.code objectInit ⟨#[0xb1]⟩ 1 none ∈ TB := ⟨TB_at 171 (by decide +kernel) (by decide), lo_rest⟩
theorem loX2_3 : Cond.methodLink RX2 3 objectInit ∈ TB ∧ Cond.instanceMethod objectInit ∈ TB ∧ Cond.code objectInit ⟨#[0xb1]⟩ 1 none ∈ TB := ⟨TB_at 201 (by decide +kernel) (by decide), lo_rest⟩
theorem loX1_3 : Cond.methodLink RX1 3 objectInit ∈ TB ∧ Cond.instanceMethod objectInit ∈ TB ∧ Cond.code objectInit ⟨#[0xb1]⟩ 1 none ∈ TB := ⟨TB_at 235 (by decide +kernel) (by decide), lo_rest⟩
theorem loX0_3 : Cond.methodLink RX0 3 objectInit ∈ TB ∧ Cond.instanceMethod objectInit ∈ TB ∧ Cond.code objectInit ⟨#[0xb1]⟩ 1 none ∈ TB := ⟨TB_at 267 (by decide +kernel) (by decide), lo_rest⟩
theorem loX4_3 : Cond.methodLink RX4 3 objectInit ∈ TB ∧ Cond.instanceMethod objectInit ∈ TB ∧ Cond.code objectInit ⟨#[0xb1]⟩ 1 none ∈ TB := ⟨TB_at 308 (by decide +kernel) (by decide), lo_rest⟩
theorem lyX6_37 : Cond.methodLink RX6 37 arraycopyName ∈ TB ∧ Cond.native arraycopyName ∈ TB ∧ Cond.static arraycopyName ∈ TB ∧ Cond.initialized "java/lang/System" ∈ TB := ⟨TB_at 373 (by decide +kernel) (by decide), ly_rest⟩
theorem lyX0_43 : Cond.methodLink RX0 43 arraycopyName ∈ TB ∧ Cond.native arraycopyName ∈ TB ∧ Cond.static arraycopyName ∈ TB ∧ Cond.initialized "java/lang/System" ∈ TB := ⟨TB_at 503 (by decide +kernel) (by decide), ly_rest⟩
theorem lyX7_167 : Cond.methodLink RX7 167 arraycopyName ∈ TB ∧ Cond.native arraycopyName ∈ TB ∧ Cond.static arraycopyName ∈ TB ∧ Cond.initialized "java/lang/System" ∈ TB := ⟨TB_at 569 (by decide +kernel) (by decide), ly_rest⟩
theorem lyX2_32 : Cond.methodLink RX2 32 arraycopyName ∈ TB ∧ Cond.native arraycopyName ∈ TB ∧ Cond.static arraycopyName ∈ TB ∧ Cond.initialized "java/lang/System" ∈ TB := ⟨TB_at 649 (by decide +kernel) (by decide), ly_rest⟩
theorem lyX1_60 : Cond.methodLink RX1 60 arraycopyName ∈ TB ∧ Cond.native arraycopyName ∈ TB ∧ Cond.static arraycopyName ∈ TB ∧ Cond.initialized "java/lang/System" ∈ TB := ⟨TB_at 708 (by decide +kernel) (by decide), ly_rest⟩
theorem loX8_1 : Cond.methodLink RX8 1 objectInit ∈ TB ∧ Cond.instanceMethod objectInit ∈ TB ∧ Cond.code objectInit ⟨#[0xb1]⟩ 1 none ∈ TB := ⟨TB_at 806 (by decide +kernel) (by decide), lo_rest⟩
theorem la_int : Cond.arrayClass .int ∈ TB := TB_at 129 (by decide +kernel) (by decide)
theorem la_boolean : Cond.arrayClass .boolean ∈ TB := TB_at 910 (by decide +kernel) (by decide)
