/-! the pure machine's rows: an instruction, a row -/
section QWr
variable {g : QG} {md : MD} {pc : Nat} {l : List (Option Value)} {st : List Value} {ph : QH} {ce sl : Nat} {K : Option Int32 → QH → Prop}
theorem QW.go {pc2 : Nat} {st2 : List Value} (h : ∀ (p : Program) (e : Env) (s : State) (m : MethodId) (args : Array Value) (below : List Frame) (meth : Method) (c : Code) (H : Heap) (locs : List Loc) (ls : Array Slot) (Q : State → Prop), p.tables.exec = Jvm.exec → c.code = q_c md → (∀ (i : Nat) (v : Value), l[i]? = some (some v) → ls[i]? = some (.val (q_tv g v))) → W p (q_l g) e (q_r md) s m args below meth c H locs ce sl Q (F0 m pc2 ls (st2.map (q_tv g))) → W p (q_l g) e (q_r md) s m args below meth c H locs ce sl Q (F0 m pc ls (st.map (q_tv g))))
    (k : QW g md pc2 l st2 ph ce sl K) : QW g md pc l st ph ce sl K := fun p e s m args below meth c H locs ls Q h1 h2 h3 h4 h5 => h p e s m args below meth c H locs ls Q h2.1 h2.2.1 h4.2.2 (k p e s m args below meth c H locs ls Q h1 h2 h3 h4 h5)
/-- the same, with the tables' words -/
theorem QW.goT {pc2 : Nat} {st2 : List Value} (h : ∀ (p : Program) (e : Env) (s : State) (m : MethodId) (args : Array Value) (below : List Frame) (meth : Method) (c : Code) (H : Heap) (locs : List Loc) (ls : Array Slot) (Q : State → Prop), QOK g → QCx g md p s m args meth c → QHR g ph s H locs → ls.size = q_n md → W p (q_l g) e (q_r md) s m args below meth c H locs ce sl Q (F0 m pc2 ls (st2.map (q_tv g))) → W p (q_l g) e (q_r md) s m args below meth c H locs ce sl Q (F0 m pc ls (st.map (q_tv g))))
    (k : QW g md pc2 l st2 ph ce sl K) : QW g md pc l st ph ce sl K := fun p e s m args below meth c H locs ls Q h1 h2 h3 h4 h5 => h p e s m args below meth c H locs ls Q h1 h2 h3 h4.1 (k p e s m args below meth c H locs ls Q h1 h2 h3 h4 h5)

theorem QW.iconst {n : Int} (v : Int32) (hv : Int32.ofInt n = v) (hd : decode (q_c md) pc = .ok (.iconst n, 1)) (k : QW g md (pc + 1) l (.int v :: st) ph ce sl K) : QW g md pc l (st) ph ce sl K := QW.go (fun _ _ _ _ _ _ _ _ _ _ _ _ hx hb hl w => lv_iconst hx hb hd hv w) k
theorem QW.bipush {n : Int} (v : Int32) (hv : (Int8.ofInt n).toInt32 = v) (hd : decode (q_c md) pc = .ok (.bipush n, 2)) (k : QW g md (pc + 2) l (.int v :: st) ph ce sl K) : QW g md pc l (st) ph ce sl K := QW.go (fun _ _ _ _ _ _ _ _ _ _ _ _ hx hb hl w => lv_bipush hx hb hd hv w) k
theorem QW.sipush {n : Int} (v : Int32) (hv : (Int16.ofInt n).toInt32 = v) (hd : decode (q_c md) pc = .ok (.sipush n, 3)) (k : QW g md (pc + 3) l (.int v :: st) ph ce sl K) : QW g md pc l (st) ph ce sl K := QW.go (fun _ _ _ _ _ _ _ _ _ _ _ _ hx hb hl w => lv_sipush hx hb hd hv w) k
theorem QW.lconst {n : Fin 2} (v : Int64) (hv : Int64.ofNat (n : Nat) = v) (hd : decode (q_c md) pc = .ok (.lconst n, 1)) (k : QW g md (pc + 1) l (.long v :: st) ph ce sl K) : QW g md pc l (st) ph ce sl K := QW.go (fun _ _ _ _ _ _ _ _ _ _ _ _ hx hb hl w => lv_lconst hx hb hd hv w) k
theorem QW.iload_n {k : Fin 4} {x : Int32} (hd : decode (q_c md) pc = .ok (.iload_n k, 1)) (h0 : l[(k : Nat)]? = some (some (.int x))) (k : QW g md (pc + 1) l (.int x :: st) ph ce sl K) : QW g md pc l (st) ph ce sl K := QW.go (fun _ _ _ _ _ _ _ _ _ _ _ _ hx hb hl w => lv_iload_n hx hb hd rfl (hl _ _ h0) w) k
theorem QW.iload {k : Nat} {x : Int32} (hd : decode (q_c md) pc = .ok (.iload k, 2)) (h0 : l[(k : Nat)]? = some (some (.int x))) (k : QW g md (pc + 2) l (.int x :: st) ph ce sl K) : QW g md pc l (st) ph ce sl K := QW.go (fun _ _ _ _ _ _ _ _ _ _ _ _ hx hb hl w => lv_iload hx hb hd (hl _ _ h0) w) k
theorem QW.lload_n {k : Fin 4} {x : Int64} (hd : decode (q_c md) pc = .ok (.lload_n k, 1)) (h0 : l[(k : Nat)]? = some (some (.long x))) (k : QW g md (pc + 1) l (.long x :: st) ph ce sl K) : QW g md pc l (st) ph ce sl K := QW.go (fun _ _ _ _ _ _ _ _ _ _ _ _ hx hb hl w => lv_lload_n hx hb hd rfl (hl _ _ h0) w) k
theorem QW.lload {k : Nat} {x : Int64} (hd : decode (q_c md) pc = .ok (.lload k, 2)) (h0 : l[(k : Nat)]? = some (some (.long x))) (k : QW g md (pc + 2) l (.long x :: st) ph ce sl K) : QW g md pc l (st) ph ce sl K := QW.go (fun _ _ _ _ _ _ _ _ _ _ _ _ hx hb hl w => lv_lload hx hb hd (hl _ _ h0) w) k
theorem QW.aload_n {k : Fin 4} {x : Nat} (hd : decode (q_c md) pc = .ok (.aload_n k, 1)) (h0 : l[(k : Nat)]? = some (some (.ref x))) (k : QW g md (pc + 1) l (.ref x :: st) ph ce sl K) : QW g md pc l (st) ph ce sl K := QW.go (fun _ _ _ _ _ _ _ _ _ _ _ _ hx hb hl w => lv_aload_n hx hb hd rfl (hl _ _ h0) w) k
theorem QW.aload {k : Nat} {x : Nat} (hd : decode (q_c md) pc = .ok (.aload k, 2)) (h0 : l[(k : Nat)]? = some (some (.ref x))) (k : QW g md (pc + 2) l (.ref x :: st) ph ce sl K) : QW g md pc l (st) ph ce sl K := QW.go (fun _ _ _ _ _ _ _ _ _ _ _ _ hx hb hl w => lv_aload hx hb hd (hl _ _ h0) w) k
theorem QW.iadd {x y : Int32} (hd : decode (q_c md) pc = .ok (.iadd, 1)) (k : QW g md (pc + 1) l (.int (x + y) :: st) ph ce sl K) : QW g md pc l (.int y :: .int x :: st) ph ce sl K := QW.go (fun _ _ _ _ _ _ _ _ _ _ _ _ hx hb hl w => lv_iadd hx hb hd w) k
theorem QW.isub {x y : Int32} (hd : decode (q_c md) pc = .ok (.isub, 1)) (k : QW g md (pc + 1) l (.int (x - y) :: st) ph ce sl K) : QW g md pc l (.int y :: .int x :: st) ph ce sl K := QW.go (fun _ _ _ _ _ _ _ _ _ _ _ _ hx hb hl w => lv_isub hx hb hd w) k
theorem QW.imul {x y : Int32} (hd : decode (q_c md) pc = .ok (.imul, 1)) (k : QW g md (pc + 1) l (.int (x * y) :: st) ph ce sl K) : QW g md pc l (.int y :: .int x :: st) ph ce sl K := QW.go (fun _ _ _ _ _ _ _ _ _ _ _ _ hx hb hl w => lv_imul hx hb hd w) k
theorem QW.iand {x y : Int32} (hd : decode (q_c md) pc = .ok (.iand, 1)) (k : QW g md (pc + 1) l (.int (x &&& y) :: st) ph ce sl K) : QW g md pc l (.int y :: .int x :: st) ph ce sl K := QW.go (fun _ _ _ _ _ _ _ _ _ _ _ _ hx hb hl w => lv_iand hx hb hd w) k
theorem QW.ior {x y : Int32} (hd : decode (q_c md) pc = .ok (.ior, 1)) (k : QW g md (pc + 1) l (.int (x ||| y) :: st) ph ce sl K) : QW g md pc l (.int y :: .int x :: st) ph ce sl K := QW.go (fun _ _ _ _ _ _ _ _ _ _ _ _ hx hb hl w => lv_ior hx hb hd w) k
theorem QW.ixor {x y : Int32} (hd : decode (q_c md) pc = .ok (.ixor, 1)) (k : QW g md (pc + 1) l (.int (x ^^^ y) :: st) ph ce sl K) : QW g md pc l (.int y :: .int x :: st) ph ce sl K := QW.go (fun _ _ _ _ _ _ _ _ _ _ _ _ hx hb hl w => lv_ixor hx hb hd w) k
theorem QW.ishl {x y : Int32} (hd : decode (q_c md) pc = .ok (.ishl, 1)) (k : QW g md (pc + 1) l (.int (x <<< (y &&& 31)) :: st) ph ce sl K) : QW g md pc l (.int y :: .int x :: st) ph ce sl K := QW.go (fun _ _ _ _ _ _ _ _ _ _ _ _ hx hb hl w => lv_ishl hx hb hd w) k
theorem QW.ishr {x y : Int32} (hd : decode (q_c md) pc = .ok (.ishr, 1)) (k : QW g md (pc + 1) l (.int (x >>> (y &&& 31)) :: st) ph ce sl K) : QW g md pc l (.int y :: .int x :: st) ph ce sl K := QW.go (fun _ _ _ _ _ _ _ _ _ _ _ _ hx hb hl w => lv_ishr hx hb hd w) k
theorem QW.idiv {x y : Int32} (hne : ¬ y = 0) (hd : decode (q_c md) pc = .ok (.idiv, 1)) (k : QW g md (pc + 1) l (.int (x / y) :: st) ph ce sl K) : QW g md pc l (.int y :: .int x :: st) ph ce sl K := QW.go (fun _ _ _ _ _ _ _ _ _ _ _ _ hx hb hl w => lv_idiv hx hb hd hne w) k
theorem QW.irem {x y : Int32} (hne : ¬ y = 0) (hd : decode (q_c md) pc = .ok (.irem, 1)) (k : QW g md (pc + 1) l (.int (x - x / y * y) :: st) ph ce sl K) : QW g md pc l (.int y :: .int x :: st) ph ce sl K := QW.go (fun _ _ _ _ _ _ _ _ _ _ _ _ hx hb hl w => lv_irem hx hb hd hne w) k
theorem QW.ineg {x : Int32} (hd : decode (q_c md) pc = .ok (.ineg, 1)) (k : QW g md (pc + 1) l (.int (-x) :: st) ph ce sl K) : QW g md pc l (.int x :: st) ph ce sl K := QW.go (fun _ _ _ _ _ _ _ _ _ _ _ _ hx hb hl w => lv_ineg hx hb hd w) k
theorem QW.iushr {x y : Int32} (hd : decode (q_c md) pc = .ok (.iushr, 1)) (k : QW g md (pc + 1) l (.int ((x.toUInt32 >>> (y.toUInt32 &&& Int32.toUInt32 31)).toInt32) :: st) ph ce sl K) : QW g md pc l (.int y :: .int x :: st) ph ce sl K := QW.go (fun _ _ _ _ _ _ _ _ _ _ _ _ hx hb hl w => lv_iushr hx hb hd rfl w) k
theorem QW.land {x y : Int64} (hd : decode (q_c md) pc = .ok (.land, 1)) (k : QW g md (pc + 1) l (.long (x &&& y) :: st) ph ce sl K) : QW g md pc l (.long y :: .long x :: st) ph ce sl K := QW.go (fun _ _ _ _ _ _ _ _ _ _ _ _ hx hb hl w => lv_land hx hb hd w) k
theorem QW.lor {x y : Int64} (hd : decode (q_c md) pc = .ok (.lor, 1)) (k : QW g md (pc + 1) l (.long (x ||| y) :: st) ph ce sl K) : QW g md pc l (.long y :: .long x :: st) ph ce sl K := QW.go (fun _ _ _ _ _ _ _ _ _ _ _ _ hx hb hl w => lv_lor hx hb hd w) k
theorem QW.lshl {x : Int64} {y : Int32} (hd : decode (q_c md) pc = .ok (.lshl, 1)) (k : QW g md (pc + 1) l (.long (x <<< (y.toInt64 &&& 63)) :: st) ph ce sl K) : QW g md pc l (.int y :: .long x :: st) ph ce sl K := QW.go (fun _ _ _ _ _ _ _ _ _ _ _ _ hx hb hl w => lv_lshl hx hb hd rfl w) k
theorem QW.lshr {x : Int64} {y : Int32} (hd : decode (q_c md) pc = .ok (.lshr, 1)) (k : QW g md (pc + 1) l (.long (x >>> (y.toInt64 &&& 63)) :: st) ph ce sl K) : QW g md pc l (.int y :: .long x :: st) ph ce sl K := QW.go (fun _ _ _ _ _ _ _ _ _ _ _ _ hx hb hl w => lv_lshr hx hb hd rfl w) k
theorem QW.lcmp {x y : Int64} (hd : decode (q_c md) pc = .ok (.lcmp, 1)) (k : QW g md (pc + 1) l (.int (lg_cmp x y) :: st) ph ce sl K) : QW g md pc l (.long y :: .long x :: st) ph ce sl K := QW.go (fun _ _ _ _ _ _ _ _ _ _ _ _ hx hb hl w => W.lcmp hx hb hd w) k
theorem QW.i2l {x : Int32} (hd : decode (q_c md) pc = .ok (.i2l, 1)) (k : QW g md (pc + 1) l (.long x.toInt64 :: st) ph ce sl K) : QW g md pc l (.int x :: st) ph ce sl K := QW.go (fun _ _ _ _ _ _ _ _ _ _ _ _ hx hb hl w => lv_i2l hx hb hd rfl w) k
theorem QW.l2i {x : Int64} (hd : decode (q_c md) pc = .ok (.l2i, 1)) (k : QW g md (pc + 1) l (.int x.toInt32 :: st) ph ce sl K) : QW g md pc l (.long x :: st) ph ce sl K := QW.go (fun _ _ _ _ _ _ _ _ _ _ _ _ hx hb hl w => lv_l2i hx hb hd rfl w) k
theorem QW.i2c {x : Int32} (hd : decode (q_c md) pc = .ok (.i2c, 1)) (k : QW g md (pc + 1) l (.int (x.toUInt32 % 65536).toInt32 :: st) ph ce sl K) : QW g md pc l (.int x :: st) ph ce sl K := QW.go (fun _ _ _ _ _ _ _ _ _ _ _ _ hx hb hl w => lv_i2c hx hb hd rfl w) k
theorem QW.dupi {x : Int32} (hd : decode (q_c md) pc = .ok (.dup, 1)) (k : QW g md (pc + 1) l (.int x :: .int x :: st) ph ce sl K) : QW g md pc l (.int x :: st) ph ce sl K := QW.go (fun _ _ _ _ _ _ _ _ _ _ _ _ hx hb hl w => lv_dup hx hb hd rfl w) k
theorem QW.dupr {x : Nat} (hd : decode (q_c md) pc = .ok (.dup, 1)) (k : QW g md (pc + 1) l (.ref x :: .ref x :: st) ph ce sl K) : QW g md pc l (.ref x :: st) ph ce sl K := QW.go (fun _ _ _ _ _ _ _ _ _ _ _ _ hx hb hl w => lv_dup hx hb hd rfl w) k
theorem QW.popi {x : Int32} (hd : decode (q_c md) pc = .ok (.pop, 1)) (k : QW g md (pc + 1) l (st) ph ce sl K) : QW g md pc l (.int x :: st) ph ce sl K := QW.go (fun _ _ _ _ _ _ _ _ _ _ _ _ hx hb hl w => lv_pop hx hb hd rfl w) k
theorem QW.dup2ir {x : Int32} {y : Nat} (hd : decode (q_c md) pc = .ok (.dup2, 1)) (k : QW g md (pc + 1) l (.int x :: .ref y :: .int x :: .ref y :: st) ph ce sl K) : QW g md pc l (.int x :: .ref y :: st) ph ce sl K := QW.go (fun _ _ _ _ _ _ _ _ _ _ _ _ hx hb hl w => lv_dup2_11 hx hb hd rfl rfl w) k
theorem QW.if_eq {x : Int32} {off : Int} (tgt : Nat) (hd : decode (q_c md) pc = .ok (.ifCond .eq off, 3)) (ht : (pc : Int) + off = (tgt : Int)) (kt : x = 0 → QW g md tgt l st ph ce sl K) (kf : ¬ x = 0 → QW g md (pc + 3) l st ph ce sl K) : QW g md pc l (.int x :: st) ph ce sl K := fun p e s m args below meth c H locs ls Q h1 h2 h3 h4 h5 => lv_if_eq h2.1 h2.2.1 hd ht (fun z => kt z p e s m args below meth c H locs ls Q h1 h2 h3 h4 h5) (fun z => kf z p e s m args below meth c H locs ls Q h1 h2 h3 h4 h5)
theorem QW.icmp_eq {x y : Int32} {off : Int} (tgt : Nat) (hd : decode (q_c md) pc = .ok (.if_icmp .eq off, 3)) (ht : (pc : Int) + off = (tgt : Int)) (kt : x = y → QW g md tgt l st ph ce sl K) (kf : ¬ x = y → QW g md (pc + 3) l st ph ce sl K) : QW g md pc l (.int y :: .int x :: st) ph ce sl K := fun p e s m args below meth c H locs ls Q h1 h2 h3 h4 h5 => lv_icmp_eq h2.1 h2.2.1 hd ht (fun z => kt z p e s m args below meth c H locs ls Q h1 h2 h3 h4 h5) (fun z => kf z p e s m args below meth c H locs ls Q h1 h2 h3 h4 h5)
theorem QW.if_ne {x : Int32} {off : Int} (tgt : Nat) (hd : decode (q_c md) pc = .ok (.ifCond .ne off, 3)) (ht : (pc : Int) + off = (tgt : Int)) (kt : ¬ x = 0 → QW g md tgt l st ph ce sl K) (kf : x = 0 → QW g md (pc + 3) l st ph ce sl K) : QW g md pc l (.int x :: st) ph ce sl K := fun p e s m args below meth c H locs ls Q h1 h2 h3 h4 h5 => lv_if_ne h2.1 h2.2.1 hd ht (fun z => kt z p e s m args below meth c H locs ls Q h1 h2 h3 h4 h5) (fun z => kf z p e s m args below meth c H locs ls Q h1 h2 h3 h4 h5)
theorem QW.icmp_ne {x y : Int32} {off : Int} (tgt : Nat) (hd : decode (q_c md) pc = .ok (.if_icmp .ne off, 3)) (ht : (pc : Int) + off = (tgt : Int)) (kt : ¬ x = y → QW g md tgt l st ph ce sl K) (kf : x = y → QW g md (pc + 3) l st ph ce sl K) : QW g md pc l (.int y :: .int x :: st) ph ce sl K := fun p e s m args below meth c H locs ls Q h1 h2 h3 h4 h5 => lv_icmp_ne h2.1 h2.2.1 hd ht (fun z => kt z p e s m args below meth c H locs ls Q h1 h2 h3 h4 h5) (fun z => kf z p e s m args below meth c H locs ls Q h1 h2 h3 h4 h5)
theorem QW.if_lt {x : Int32} {off : Int} (tgt : Nat) (hd : decode (q_c md) pc = .ok (.ifCond .lt off, 3)) (ht : (pc : Int) + off = (tgt : Int)) (kt : x < 0 → QW g md tgt l st ph ce sl K) (kf : ¬ x < 0 → QW g md (pc + 3) l st ph ce sl K) : QW g md pc l (.int x :: st) ph ce sl K := fun p e s m args below meth c H locs ls Q h1 h2 h3 h4 h5 => lv_if_lt h2.1 h2.2.1 hd ht (fun z => kt z p e s m args below meth c H locs ls Q h1 h2 h3 h4 h5) (fun z => kf z p e s m args below meth c H locs ls Q h1 h2 h3 h4 h5)
theorem QW.icmp_lt {x y : Int32} {off : Int} (tgt : Nat) (hd : decode (q_c md) pc = .ok (.if_icmp .lt off, 3)) (ht : (pc : Int) + off = (tgt : Int)) (kt : x < y → QW g md tgt l st ph ce sl K) (kf : ¬ x < y → QW g md (pc + 3) l st ph ce sl K) : QW g md pc l (.int y :: .int x :: st) ph ce sl K := fun p e s m args below meth c H locs ls Q h1 h2 h3 h4 h5 => lv_icmp_lt h2.1 h2.2.1 hd ht (fun z => kt z p e s m args below meth c H locs ls Q h1 h2 h3 h4 h5) (fun z => kf z p e s m args below meth c H locs ls Q h1 h2 h3 h4 h5)
theorem QW.if_ge {x : Int32} {off : Int} (tgt : Nat) (hd : decode (q_c md) pc = .ok (.ifCond .ge off, 3)) (ht : (pc : Int) + off = (tgt : Int)) (kt : 0 ≤ x → QW g md tgt l st ph ce sl K) (kf : ¬ 0 ≤ x → QW g md (pc + 3) l st ph ce sl K) : QW g md pc l (.int x :: st) ph ce sl K := fun p e s m args below meth c H locs ls Q h1 h2 h3 h4 h5 => lv_if_ge h2.1 h2.2.1 hd ht (fun z => kt z p e s m args below meth c H locs ls Q h1 h2 h3 h4 h5) (fun z => kf z p e s m args below meth c H locs ls Q h1 h2 h3 h4 h5)
theorem QW.icmp_ge {x y : Int32} {off : Int} (tgt : Nat) (hd : decode (q_c md) pc = .ok (.if_icmp .ge off, 3)) (ht : (pc : Int) + off = (tgt : Int)) (kt : y ≤ x → QW g md tgt l st ph ce sl K) (kf : ¬ y ≤ x → QW g md (pc + 3) l st ph ce sl K) : QW g md pc l (.int y :: .int x :: st) ph ce sl K := fun p e s m args below meth c H locs ls Q h1 h2 h3 h4 h5 => lv_icmp_ge h2.1 h2.2.1 hd ht (fun z => kt z p e s m args below meth c H locs ls Q h1 h2 h3 h4 h5) (fun z => kf z p e s m args below meth c H locs ls Q h1 h2 h3 h4 h5)
theorem QW.if_gt {x : Int32} {off : Int} (tgt : Nat) (hd : decode (q_c md) pc = .ok (.ifCond .gt off, 3)) (ht : (pc : Int) + off = (tgt : Int)) (kt : 0 < x → QW g md tgt l st ph ce sl K) (kf : ¬ 0 < x → QW g md (pc + 3) l st ph ce sl K) : QW g md pc l (.int x :: st) ph ce sl K := fun p e s m args below meth c H locs ls Q h1 h2 h3 h4 h5 => lv_if_gt h2.1 h2.2.1 hd ht (fun z => kt z p e s m args below meth c H locs ls Q h1 h2 h3 h4 h5) (fun z => kf z p e s m args below meth c H locs ls Q h1 h2 h3 h4 h5)
theorem QW.icmp_gt {x y : Int32} {off : Int} (tgt : Nat) (hd : decode (q_c md) pc = .ok (.if_icmp .gt off, 3)) (ht : (pc : Int) + off = (tgt : Int)) (kt : y < x → QW g md tgt l st ph ce sl K) (kf : ¬ y < x → QW g md (pc + 3) l st ph ce sl K) : QW g md pc l (.int y :: .int x :: st) ph ce sl K := fun p e s m args below meth c H locs ls Q h1 h2 h3 h4 h5 => lv_icmp_gt h2.1 h2.2.1 hd ht (fun z => kt z p e s m args below meth c H locs ls Q h1 h2 h3 h4 h5) (fun z => kf z p e s m args below meth c H locs ls Q h1 h2 h3 h4 h5)
theorem QW.if_le {x : Int32} {off : Int} (tgt : Nat) (hd : decode (q_c md) pc = .ok (.ifCond .le off, 3)) (ht : (pc : Int) + off = (tgt : Int)) (kt : x ≤ 0 → QW g md tgt l st ph ce sl K) (kf : ¬ x ≤ 0 → QW g md (pc + 3) l st ph ce sl K) : QW g md pc l (.int x :: st) ph ce sl K := fun p e s m args below meth c H locs ls Q h1 h2 h3 h4 h5 => lv_if_le h2.1 h2.2.1 hd ht (fun z => kt z p e s m args below meth c H locs ls Q h1 h2 h3 h4 h5) (fun z => kf z p e s m args below meth c H locs ls Q h1 h2 h3 h4 h5)
theorem QW.icmp_le {x y : Int32} {off : Int} (tgt : Nat) (hd : decode (q_c md) pc = .ok (.if_icmp .le off, 3)) (ht : (pc : Int) + off = (tgt : Int)) (kt : x ≤ y → QW g md tgt l st ph ce sl K) (kf : ¬ x ≤ y → QW g md (pc + 3) l st ph ce sl K) : QW g md pc l (.int y :: .int x :: st) ph ce sl K := fun p e s m args below meth c H locs ls Q h1 h2 h3 h4 h5 => lv_icmp_le h2.1 h2.2.1 hd ht (fun z => kt z p e s m args below meth c H locs ls Q h1 h2 h3 h4 h5) (fun z => kf z p e s m args below meth c H locs ls Q h1 h2 h3 h4 h5)
theorem QW.goto {off : Int} (tgt : Nat) (hd : decode (q_c md) pc = .ok (.goto off, 3)) (ht : (pc : Int) + off = (tgt : Int)) (k : QW g md tgt l st ph ce sl K) : QW g md pc l st ph ce sl K := QW.go (fun _ _ _ _ _ _ _ _ _ _ _ _ hx hb hl w => lv_goto hx hb hd ht w) k
theorem QW.tabIn {dflt lo hi : Int} {offs : Array Int} {len : Nat} {x : Int32} {off : Int} (tgt : Nat) (hd : decode (q_c md) pc = .ok (.tableswitch dflt lo hi offs, len)) (h1 : ¬ x.toInt < lo) (h2 : ¬ hi < x.toInt) (ho : offs[(x.toInt - lo).toNat]? = some off) (ht : (pc : Int) + off = (tgt : Int)) (k : QW g md tgt l st ph ce sl K) : QW g md pc l (.int x :: st) ph ce sl K := QW.go (fun _ _ _ _ _ _ _ _ _ _ _ _ hx hb hl w => lv_tableIn hx hb hd h1 h2 ho ht w) k
theorem QW.tabOut {dflt lo hi : Int} {offs : Array Int} {len : Nat} {x : Int32} (tgt : Nat) (hd : decode (q_c md) pc = .ok (.tableswitch dflt lo hi offs, len)) (h : x.toInt < lo ∨ hi < x.toInt) (ht : (pc : Int) + dflt = (tgt : Int)) (k : QW g md tgt l st ph ce sl K) : QW g md pc l (.int x :: st) ph ce sl K := QW.go (fun _ _ _ _ _ _ _ _ _ _ _ _ hx hb hl w => lv_tableOut hx hb hd h ht w) k
/-- the known locals as the kit has them -/
def q_asc (g : QG) (l : List (Option Value)) : List (Nat × Value) := (List.range l.length).filterMap (fun i => (l.getD i none).map (fun v => (i, q_tv g v)))
theorem q_asc_mem {g : QG} {l : List (Option Value)} {i : Nat} {w : Value} : (i, w) ∈ q_asc g l ↔ ∃ v, l[i]? = some (some v) ∧ w = q_tv g v := by
  unfold q_asc
  rw [List.mem_filterMap]
  constructor
  · rintro ⟨j, hj, h⟩
    rw [List.getD_eq_getElem?_getD] at h
    cases hv : l[j]? with
    | none => rw [hv] at h; cases h
    | some o =>
      rw [hv] at h
      cases o with
      | none => cases h
      | some v =>
        cases h
        exact ⟨v, hv, rfl⟩
  · rintro ⟨v, hv, rfl⟩
    refine ⟨i, List.mem_range.mpr (List.getElem?_eq_some_iff.mp hv).1, ?_⟩
    rw [List.getD_eq_getElem?_getD, hv]
    rfl
theorem QLR.has {ls : Array Slot} {nL : Nat} (h : QLR g ls nL l) : lv_has ls nL (q_asc g l) := ⟨h.1, h.2.1, fun q hq => by
  obtain ⟨v, h1, h2⟩ := q_asc_mem.mp (show (q.1, q.2) ∈ q_asc g l from hq)
  rw [h2]
  exact h.2.2 q.1 v h1⟩
/-- no long lies just ahead of place i -/
def q_okst (l : List (Option Value)) (i : Nat) : Bool := match i with
  | 0 => true
  | i + 1 => match l[i]? with
    | some (some v) => v.category == 1
    | _ => true
theorem q_tv_cat (g : QG) (v : Value) : (q_tv g v).category = v.category := by cases v <;> rfl
theorem QLR.store {ls : Array Slot} {nL i : Nat} {v : Value} (ho : q_okst l i = true) (h : lv_has ls nL ((i, q_tv g v) :: (q_asc g l).filter (fun q => !(q.1 == i) && !(q.1 + 1 == i && q.2.category == 2)))) : QLR g ls nL (l.set i (some v)) := by
  refine ⟨h.1, h.2.1, fun j w hj => ?_⟩
  by_cases e : j = i
  · subst e
    have hl : j < l.length := by
      have := (List.getElem?_eq_some_iff.mp hj).1
      simpa using this
    rw [List.getElem?_set_self hl] at hj
    cases hj
    exact h.2.2 (j, q_tv g v) List.mem_cons_self
  · rw [List.getElem?_set_ne (Ne.symm e)] at hj
    refine h.2.2 (j, q_tv g w) (List.mem_cons_of_mem _ (List.mem_filter.mpr ⟨q_asc_mem.mpr ⟨w, hj, rfl⟩, ?_⟩))
    have h1 : (j == i) = false := by simpa using e
    by_cases e2 : j + 1 = i
    · subst e2
      simp only [q_okst, hj] at ho
      have hc : w.category = 1 := by simpa using ho
      simp [q_tv_cat, hc]
    · have h2 : (j + 1 == i) = false := by simpa using e2
      simp [h1, h2]

theorem QW.istore_n {k : Fin 4} {x : Int32} (l2 : List (Option Value)) (hd : decode (q_c md) pc = .ok (.istore_n k, 1)) (hn : (k : Nat) < q_n md) (ho : q_okst l (k : Nat) = true) (hl2 : l.set (k : Nat) (some (.int x)) = l2) (kk : QW g md (pc + 1) l2 st ph ce sl K) : QW g md pc l (.int x :: st) ph ce sl K := fun p e s m args below meth c H locs ls Q h1 h2 h3 h4 h5 => lv_istore_n h2.1 h2.2.1 hd rfl h4.has hn rfl (fun ls2 hl3 => kk p e s m args below meth c H locs ls2 Q h1 h2 h3 (hl2 ▸ QLR.store (v := .int x) ho hl3) h5)
theorem QW.istore {k : Nat} {x : Int32} (l2 : List (Option Value)) (hd : decode (q_c md) pc = .ok (.istore k, 2)) (hn : (k : Nat) < q_n md) (ho : q_okst l (k : Nat) = true) (hl2 : l.set (k : Nat) (some (.int x)) = l2) (kk : QW g md (pc + 2) l2 st ph ce sl K) : QW g md pc l (.int x :: st) ph ce sl K := fun p e s m args below meth c H locs ls Q h1 h2 h3 h4 h5 => lv_istore h2.1 h2.2.1 hd h4.has hn rfl (fun ls2 hl3 => kk p e s m args below meth c H locs ls2 Q h1 h2 h3 (hl2 ▸ QLR.store (v := .int x) ho hl3) h5)
theorem QW.astore_n {k : Fin 4} {x : Nat} (l2 : List (Option Value)) (hd : decode (q_c md) pc = .ok (.astore_n k, 1)) (hn : (k : Nat) < q_n md) (ho : q_okst l (k : Nat) = true) (hl2 : l.set (k : Nat) (some (.ref x)) = l2) (kk : QW g md (pc + 1) l2 st ph ce sl K) : QW g md pc l (.ref x :: st) ph ce sl K := fun p e s m args below meth c H locs ls Q h1 h2 h3 h4 h5 => lv_astore_n h2.1 h2.2.1 hd rfl h4.has hn rfl (fun ls2 hl3 => kk p e s m args below meth c H locs ls2 Q h1 h2 h3 (hl2 ▸ QLR.store (v := .ref x) ho hl3) h5)
theorem QW.astore {k : Nat} {x : Nat} (l2 : List (Option Value)) (hd : decode (q_c md) pc = .ok (.astore k, 2)) (hn : (k : Nat) < q_n md) (ho : q_okst l (k : Nat) = true) (hl2 : l.set (k : Nat) (some (.ref x)) = l2) (kk : QW g md (pc + 2) l2 st ph ce sl K) : QW g md pc l (.ref x :: st) ph ce sl K := fun p e s m args below meth c H locs ls Q h1 h2 h3 h4 h5 => lv_astore h2.1 h2.2.1 hd h4.has hn rfl (fun ls2 hl3 => kk p e s m args below meth c H locs ls2 Q h1 h2 h3 (hl2 ▸ QLR.store (v := .ref x) ho hl3) h5)
theorem QW.iinc {i : Nat} {n : Int} {x : Int32} (v : Int32) (l2 : List (Option Value)) (hd : decode (q_c md) pc = .ok (.iinc i n, 3)) (h0 : l[i]? = some (some (.int x))) (hv : x + Int32.ofInt n = v) (hn : i < q_n md) (ho : q_okst l i = true) (hl2 : l.set i (some (.int v)) = l2) (kk : QW g md (pc + 3) l2 st ph ce sl K) : QW g md pc l st ph ce sl K := fun p e s m args below meth c H locs ls Q h1 h2 h3 h4 h5 => by
  obtain ⟨k, hk⟩ := List.getElem?_of_mem (q_asc_mem (g := g).mpr ⟨_, h0, rfl⟩)
  exact lv_iinc h2.1 h2.2.1 hd h4.has hk hv hn rfl (fun ls2 hl3 => kk p e s m args below meth c H locs ls2 Q h1 h2 h3 (hl2 ▸ QLR.store (v := .int v) ho hl3) h5)
/-- fewer locals known -/
def q_le : List (Option Value) → List (Option Value) → Prop
  | [], _ => True
  | none :: a, _ :: b => q_le a b
  | some v :: a, w :: b => w = some v ∧ q_le a b
  | _, [] => False
theorem q_le_at : ∀ {a b : List (Option Value)}, q_le a b → ∀ (i : Nat) (v : Value), a[i]? = some (some v) → b[i]? = some (some v)
  | [], _, _, i, v, h => by simp at h
  | none :: a, x :: b, hl, 0, v, h => by simp at h
  | none :: a, x :: b, hl, i + 1, v, h => by
    rw [List.getElem?_cons_succ] at h ⊢
    exact q_le_at (a := a) (b := b) hl i v h
  | some w :: a, x :: b, hl, 0, v, h => by
    rw [List.getElem?_cons_zero] at h ⊢
    rw [hl.1]
    exact h
  | some w :: a, x :: b, hl, i + 1, v, h => by
    rw [List.getElem?_cons_succ] at h ⊢
    exact q_le_at (a := a) (b := b) hl.2 i v h
  | none :: a, [], hl, i, v, h => hl.elim
  | some w :: a, [], hl, i, v, h => hl.elim
theorem QW.sub {l2 : List (Option Value)} (h : q_le l2 l) (k : QW g md pc l2 st ph ce sl K) : QW g md pc l st ph ce sl K := fun p e s m args below meth c H locs ls Q h1 h2 h3 h4 h5 => k p e s m args below meth c H locs ls Q h1 h2 h3 ⟨h4.1, h4.2.1, fun i v hv => h4.2.2 i v (q_le_at h i v hv)⟩ h5
theorem QW.mono {K2 : Option Int32 → QH → Prop} (h : ∀ v ph2, K v ph2 → K2 v ph2) (k : QW g md pc l st ph ce sl K) : QW g md pc l st ph ce sl K2 := fun p e s m args below meth c H locs ls Q h1 h2 h3 h4 h5 => k p e s m args below meth c H locs ls Q h1 h2 h3 h4 (fun ph2 H2 locs2 ls2 pc2 v a b c2 => h5 ph2 H2 locs2 ls2 pc2 v a (h v ph2 b) c2)
end QWr
