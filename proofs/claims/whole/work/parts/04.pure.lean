/-! A PURE MACHINE over the cells that the law makes, numbered by their making: cell k lies at base + k. A pure heap is (references, ints). QW: the kit's W, over all contexts, at a pure state. -/
abbrev QH : Type := List (List (Option Nat)) × (Nat → Nat → Int32)
abbrev QG : Type := Launch × State × va_G × (ClassId × ClassId) × (Nat → Nat) × Nat × (Nat → Int32)
def q_l (g : QG) : Launch := g.1
def q_s (g : QG) : State := g.2.1
def q_D0 (g : QG) : va_G := g.2.2.1
def q_cI (g : QG) : ClassId := g.2.2.2.1.1
def q_cZ (g : QG) : ClassId := g.2.2.2.1.2
def q_o (g : QG) : Nat → Nat := g.2.2.2.2.1
def q_L (g : QG) : Nat := g.2.2.2.2.2.1
def q_x (g : QG) : Nat → Int32 := g.2.2.2.2.2.2
def q_b (g : QG) : Nat := (q_s g).heap.size
abbrev q_y (md : MD) : MethodName := md.1
abbrev q_c (md : MD) : ByteArray := md.2.1
abbrev q_n (md : MD) : Nat := md.2.2.1
abbrev q_t (md : MD) : Option FieldType := md.2.2.2.1
abbrev q_r (md : MD) : Room := md.2.2.2.2
def q_w (md : MD) : List Cond := Cond.code (q_y md) (q_c md) (q_n md) (q_t md) :: TB
/-- a pure value's real one -/
def q_tv (g : QG) (v : Value) : Value := match v with
  | .ref k => .ref (if k < 1000 then q_b g + k else q_o g k)
  | v => v
def q_isR (ci j : Nat) : Bool := (rtab.getD ci []).getD j false
def q_fld (g : QG) (ph : QH) (k ci : Nat) : List Value := (List.range ((CL.getD ci ("", TX0, 0)).2.2)).map (fun j => if q_isR ci j = true then va_rf (((ph.1.getD k []).getD j none).map (fun q => q_b g + q)) else .int (ph.2 k j))
def q_cel (g : QG) (ph : QH) (k : Nat) : va_E := match (shp.getD k (9, 0)).1 with
  | 0 => .inl (q_cI g, (shp.getD k (9, 0)).2, .inl (ph.2 k))
  | 1 => .inl (q_cZ g, (shp.getD k (9, 0)).2, .inl (ph.2 k))
  | _ => .inr ((shp.getD k (9, 0)).2, q_fld g ph k (shp.getD k (9, 0)).2)
def q_pw (g : QG) (ph : QH) : va_W := (List.range ph.1.length).map (fun k => (q_b g + k, q_cel g ph k))
def q_A (g : QG) : Nat → Prop := fun q => q_b g ≤ q
abbrev q_T (g : QG) : List (ClassId × FieldType) := [(q_cI g, .int), (q_cZ g, .boolean)]
theorem q_pw_at {g : QG} {ph : QH} {k : Nat} (h : k < ph.1.length) : (q_pw g ph)[k]? = some (q_b g + k, q_cel g ph k) := by
  unfold q_pw
  rw [List.getElem?_map, List.getElem?_range h]
  rfl
theorem q_pw_D (g : QG) (ph : QH) : va_D (q_A g) (q_pw g ph) := by
  have key : ∀ (k : Nat) (q : Nat × va_E), (q_pw g ph)[k]? = some q → q.1 = q_b g + k := by
    intro k q hk
    unfold q_pw at hk
    rw [List.getElem?_map] at hk
    by_cases h : k < ph.1.length
    · rw [List.getElem?_range h] at hk
      cases hk
      rfl
    · rw [List.getElem?_eq_none (by rw [List.length_range]; omega)] at hk
      cases hk
  refine ⟨fun i j p q hi hj e => ?_, fun k q hk => ?_⟩
  · have := key i p hi
    have := key j q hj
    omega
  · show q_b g ≤ q.1
    rw [key k q hk]
    omega
/-- one cell changed -/
theorem q_pw_set {g : QG} {ph ph' : QH} {k : Nat} {E : va_E} (hl : ph'.1.length = ph.1.length) (hk : k < ph.1.length) (he : q_cel g ph' k = E) (ho : ∀ j, j ≠ k → q_cel g ph' j = q_cel g ph j) : (q_pw g ph).set k (q_b g + k, E) = q_pw g ph' := by
  apply List.ext_getElem?
  intro j
  by_cases hj : j = k
  · subst hj
    rw [List.getElem?_set_self (by unfold q_pw; simpa using hk), q_pw_at (by omega), he]
  · rw [List.getElem?_set_ne (Ne.symm hj)]
    by_cases h : j < ph.1.length
    · rw [q_pw_at h, q_pw_at (by omega), ho j hj]
    · rw [List.getElem?_eq_none (by unfold q_pw; simpa using h), List.getElem?_eq_none (by unfold q_pw; rw [List.length_map, List.length_range, hl]; omega)]
theorem q_pw_push {g : QG} {ph ph' : QH} {E : va_E} (hl : ph'.1.length = ph.1.length + 1) (he : q_cel g ph' ph.1.length = E) (ho : ∀ j, j < ph.1.length → q_cel g ph' j = q_cel g ph j) : q_pw g ph ++ [(q_b g + ph.1.length, E)] = q_pw g ph' := by
  apply List.ext_getElem?
  intro j
  have hlen : (q_pw g ph).length = ph.1.length := by unfold q_pw; simp
  by_cases h : j < ph.1.length
  · rw [List.getElem?_append_left (by omega), q_pw_at h, q_pw_at (by omega), ho j h]
  · rw [List.getElem?_append_right (by omega), hlen]
    by_cases h2 : j = ph.1.length
    · subst h2
      rw [Nat.sub_self, q_pw_at (by omega), he]
      rfl
    · rw [List.getElem?_eq_none (by simp; omega), List.getElem?_eq_none (by unfold q_pw; rw [List.length_map, List.length_range, hl]; omega)]
/-- ints of a heap, one changed -/
def q_up (h : Nat → Nat → Int32) (k j : Nat) (v : Int32) : Nat → Nat → Int32 := fun q => if q = k then upd (h k) j v else h q
def q_upA (h : Nat → Nat → Int32) (k : Nat) (f : Nat → Int32) : Nat → Nat → Int32 := fun q => if q = k then f else h q
/-- the String constants: their places in Text's pool, texts, lengths, bytes; String i is the old cell 2000 + i, its bytes 3000 + i -/
def q_strI : List Nat := [65, 74, 80, 82, 93, 95, 97, 99]
def q_strT : List String := ["inn", "chair", "take", "nobody", "plain", "sly", "faint", "stout"]
def q_strL : List Nat := [3, 5, 4, 6, 5, 3, 5, 5]
def q_strB : List (List Int32) := [[105, 110, 110], [99, 104, 97, 105, 114], [116, 97, 107, 101], [110, 111, 98, 111, 100, 121], [112, 108, 97, 105, 110], [115, 108, 121], [102, 97, 105, 110, 116], [115, 116, 111, 117, 116]]
def q_Str (g : QG) : Prop := (∀ i : Nat, i < 8 → vk_R RX5 (q_strI.getD i 0) (q_strT.getD i "") (q_o g (2000 + i)) (q_s g)) ∧ vk_S 8 q_strL q_strB (fun i => q_o g (2000 + i)) (fun i => q_o g (3000 + i)) (q_A g) (q_s g) (q_s g).heap ∧ va_Z "java/lang/String" "COMPACT_STRINGS" "Z" (.int 1) (q_A g) (q_s g) (q_s g).heap
/-- the tables' words that a nest mate's link needs -/
def q_GN (g : QG) : Prop := ∀ w ∈ lw_tbl, ∀ a i y h, w = Cond.methodLinkNest a i y h → va_Nw w (q_s g)
def QOK (g : QG) : Prop := va_K (q_D0 g) CL (q_T g) (q_s g) ∧ q_GN g ∧ va_X (q_o g 1000) (q_L g) (q_x g) (q_s g) (q_s g).heap ∧ q_o g 1000 < q_b g ∧ q_Str g
def QHR (g : QG) (ph : QH) (s : State) (H : Heap) (locs : List Loc) : Prop := (ph.1.length < 61 → H.size = q_b g + ph.1.length) ∧ (∀ q : Nat, q < q_b g → H[q]? = (q_s g).heap[q]?) ∧ (∀ q ∈ locs, q_b g ≤ q.base) ∧ va_P (q_D0 g) CL (q_pw g ph) H ∧ s.heap.size ≤ H.size
def QEnt (g : QG) (ph : QH) (U : State) : Prop := (q_s g).WarmedH U.vm ∧ QHR g ph U U.heap []
def QCx (g : QG) (md : MD) (p : Program) (s : State) (m : MethodId) (args : Array Value) (meth : Method) (c : Code) : Prop :=
  p.tables.exec = Jvm.exec ∧ c.code = q_c md ∧ meth.sig.returnType = q_t md ∧ c.maxLocals = q_n md ∧ s.vm.findClass (q_y md).cls = some m.cls ∧ (∀ w ∈ TB, w.before args s = true) ∧ meth.locks = false ∧ meth.name = (q_y md).name ∧ (q_s g).WarmedH s.vm ∧ (∀ q : Nat, q < q_b g → s.heap[q]? = (q_s g).heap[q]?) ∧ q_b g ≤ s.heap.size
def QLR (g : QG) (ls : Array Slot) (nL : Nat) (l : List (Option Value)) : Prop := ls.size = nL ∧ lv_wf ls ∧ ∀ (i : Nat) (v : Value), l[i]? = some (some v) → ls[i]? = some (.val (q_tv g v))
def QRet (g : QG) (md : MD) (p : Program) (e : Env) (s : State) (m : MethodId) (args : Array Value) (below : List Frame) (meth : Method) (c : Code) (Q : State → Prop) (K : Option Int32 → QH → Prop) : Prop :=
  ∀ (ph : QH) (H : Heap) (locs : List Loc) (ls : Array Slot) (pc : Nat) (v : Option Int32), QHR g ph s H locs → K v ph → (match v with | none => q_t md = none ∧ decode (q_c md) pc = .ok (.return_, 1) | some x => (∃ ty, q_t md = some ty ∧ narrow ty (.int x) = .int x) ∧ decode (q_c md) pc = .ok (.ireturn, 1)) →
    W p (q_l g) e (q_r md) s m args below meth c H locs (q_r md).cells (q_r md).slots Q (F0 m pc ls (v.toList.map Value.int))
def QW (g : QG) (md : MD) (pc : Nat) (l : List (Option Value)) (st : List Value) (ph : QH) (ce sl : Nat) (K : Option Int32 → QH → Prop) : Prop :=
  ∀ (p : Program) (e : Env) (s : State) (m : MethodId) (args : Array Value) (below : List Frame) (meth : Method) (c : Code) (H : Heap) (locs : List Loc) (ls : Array Slot) (Q : State → Prop),
    QOK g → QCx g md p s m args meth c → QHR g ph s H locs → QLR g ls (q_n md) l → QRet g md p e s m args below meth c Q K →
    W p (q_l g) e (q_r md) s m args below meth c H locs ce sl Q (F0 m pc ls (st.map (q_tv g)))
/-- a method's call -/
def QC (g : QG) (md : MD) (av : List Value) (ph : QH) (K : Option Int32 → QH → Prop) : Prop :=
  QOK g → Met (q_l g) (q_y md) (q_w md) (q_r md) (va_Pc (av.map (q_tv g)) (QEnt g ph)) (fun _ st o t => ∃ (v : Option Int32) (ph' : QH), o = .returned (v.map Value.int) ∧ K v ph' ∧ QEnt g ph' t ∧ st.heap.size ≤ t.heap.size) (q_r md).cells (q_r md).slots (q_A g)
