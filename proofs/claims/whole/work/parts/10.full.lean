/-! the full heap: all 61 cells are there, no reference changes any more; only ints do -/
abbrev Hp : Type := Nat → Nat → Int32
def q_RI (K : Int32 → Hp → Prop) : Option Int32 → QH → Prop := fun v ph => ph.1 = R0 ∧ ∃ x, v = some x ∧ K x ph.2
def q_RV (K : Hp → Prop) : Option Int32 → QH → Prop := fun v ph => ph.1 = R0 ∧ v = none ∧ K ph.2
abbrev FW (g : QG) (md : MD) (pc : Nat) (l : List (Option Value)) (st : List Value) (h : Hp) (KK : Option Int32 → QH → Prop) : Prop := QW g md pc l st (R0, h) (q_r md).cells (q_r md).slots KK
def FI (g : QG) (md : MD) (av : List Value) (h : Hp) (K : Int32 → Hp → Prop) : Prop := QC g md av (R0, h) (q_RI K)
def FV (g : QG) (md : MD) (av : List Value) (h : Hp) (K : Hp → Prop) : Prop := QC g md av (R0, h) (q_RV K)
def q_SI (k j ci : Nat) : Prop := shp.getD k (9, 0) = (2, ci) ∧ q_isR ci j = false
def q_SP (k j ci : Nat) (ty : FieldType) : Prop := shp.getD k (9, 0) = (2, ci) ∧ q_isR ci j = false ∧ ((CL.getD ci ("", TX0, 0)).2.1 j).2.2.2 = false ∧ q_ty ci j = ty
def q_SR (k j ci q : Nat) : Prop := shp.getD k (9, 0) = (2, ci) ∧ q_isR ci j = true ∧ (R0.getD k []).getD j none = some q ∧ q < 61
def q_SA (k n : Nat) : Prop := shp.getD k (9, 0) = (0, n)
def q_SZ (k n : Nat) : Prop := shp.getD k (9, 0) = (1, n)
def q_SC (k : Nat) (C : String) : Prop := ∃ ci, shp.getD k (9, 0) = (2, ci) ∧ (CL.getD ci ("", TX0, 0)).1 = C ∧ ci < 9
theorem q_R0len : R0.length = 61 := by decide
def q_bool (x : Int32) : Prop := x = 0 ∨ x = 1
theorem q_bool_nar {x : Int32} (h : q_bool x) : narrow .boolean (.int x) = .int x := by rcases h with rfl | rfl <;> decide
theorem q_bool_vnar {x : Int32} (h : q_bool x) : vp_nar .boolean x = x := by rcases h with rfl | rfl <;> decide
section FWr
variable {g : QG} {md md2 : MD} {pc : Nat} {l : List (Option Value)} {st stk rest av : List Value} {h : Hp} {KK : Option Int32 → QH → Prop}
theorem FI.mono {K K2 : Int32 → Hp → Prop} (hm : ∀ x h2, K x h2 → K2 x h2) (k : FI g md av h K) : FI g md av h K2 := QC.mono (fun v ph2 ⟨e, x, ev, hk⟩ => ⟨e, x, ev, hm x ph2.2 hk⟩) k
theorem FV.mono {K K2 : Hp → Prop} (hm : ∀ h2, K h2 → K2 h2) (k : FV g md av h K) : FV g md av h K2 := QC.mono (fun v ph2 ⟨e, ev, hk⟩ => ⟨e, ev, hm ph2.2 hk⟩) k
theorem FW.getI {idx k j ci : Nat} (v : Int32) (hd : decode (q_c md) pc = .ok (.getfield idx, 3)) (hf : q_F (q_y md).cls idx ci j) (hs : q_SI k j ci) (hv : h k j = v) (kk : FW g md (pc + 3) l (.int v :: st) h KK) : FW g md pc l (.ref k :: st) h KK := by
  subst hv
  exact QW.getI hd hf (by show k < R0.length; rw [q_R0len]; exact q_shp_lt hs.1 (by decide)) hs.1 hs.2 kk
theorem FW.getR {idx k j ci q : Nat} (hd : decode (q_c md) pc = .ok (.getfield idx, 3)) (hf : q_F (q_y md).cls idx ci j) (hs : q_SR k j ci q) (kk : FW g md (pc + 3) l (.ref q :: st) h KK) : FW g md pc l (.ref k :: st) h KK :=
  QW.getR hd hf (by show k < R0.length; rw [q_R0len]; exact q_shp_lt hs.1 (by decide)) hs.1 hs.2.1 hs.2.2.1 hs.2.2.2 kk
theorem FW.putI {idx k j ci : Nat} {v : Int32} (hd : decode (q_c md) pc = .ok (.putfield idx, 3)) (hf : q_F (q_y md).cls idx ci j) (hs : q_SP k j ci .int) (kk : FW g md (pc + 3) l st (q_up h k j v) KK) : FW g md pc l (.int v :: .ref k :: st) h KK :=
  QW.putI hd hf (by show k < R0.length; rw [q_R0len]; exact q_shp_lt hs.1 (by decide)) hs.1 hs.2.1 hs.2.2.1 (by rw [hs.2.2.2]; rfl) (by rw [hs.2.2.2]; rfl) kk
theorem FW.putZ {idx k j ci : Nat} {v : Int32} (hb : q_bool v) (hd : decode (q_c md) pc = .ok (.putfield idx, 3)) (hf : q_F (q_y md).cls idx ci j) (hs : q_SP k j ci .boolean) (kk : FW g md (pc + 3) l st (q_up h k j v) KK) : FW g md pc l (.int v :: .ref k :: st) h KK :=
  QW.putI hd hf (by show k < R0.length; rw [q_R0len]; exact q_shp_lt hs.1 (by decide)) hs.1 hs.2.1 hs.2.2.1 (by rw [hs.2.2.2]; exact q_bool_nar hb) (by rw [hs.2.2.2]; rcases hb with rfl | rfl <;> decide) kk
theorem FW.iald {k n : Nat} {i : Int32} (v : Int32) (hd : decode (q_c md) pc = .ok (.iaload, 1)) (hs : q_SA k n) (hin : vp_in i n) (hv : h k i.toNatClampNeg = v) (kk : FW g md (pc + 1) l (.int v :: st) h KK) : FW g md pc l (.int i :: .ref k :: st) h KK := by
  subst hv
  exact QW.iald hd (by show k < R0.length; rw [q_R0len]; exact q_shp_lt hs (by decide)) hs hin kk
theorem FW.zald {k n : Nat} {i : Int32} (v : Int32) (hd : decode (q_c md) pc = .ok (.baload, 1)) (hs : q_SZ k n) (hin : vp_in i n) (hv : h k i.toNatClampNeg = v) (kk : FW g md (pc + 1) l (.int v :: st) h KK) : FW g md pc l (.int i :: .ref k :: st) h KK := by
  subst hv
  exact QW.zald hd (by show k < R0.length; rw [q_R0len]; exact q_shp_lt hs (by decide)) hs hin kk
theorem FW.alen {k n : Nat} (v : Int32) (hd : decode (q_c md) pc = .ok (.arraylength, 1)) (hs : q_SA k n) (hv : Int32.ofNat n = v) (kk : FW g md (pc + 1) l (.int v :: st) h KK) : FW g md pc l (.ref k :: st) h KK :=
  QW.alen hd (by show k < R0.length; rw [q_R0len]; exact q_shp_lt hs (by decide)) hs hv kk
theorem FW.iast {k n : Nat} {i x : Int32} (hd : decode (q_c md) pc = .ok (.iastore, 1)) (hs : q_SA k n) (hin : vp_in i n) (kk : FW g md (pc + 1) l st (q_up h k i.toNatClampNeg x) KK) : FW g md pc l (.int x :: .int i :: .ref k :: st) h KK :=
  QW.iast hd (by show k < R0.length; rw [q_R0len]; exact q_shp_lt hs (by decide)) hs hin kk
theorem FW.zast {k n : Nat} {i x : Int32} (hb : q_bool x) (hd : decode (q_c md) pc = .ok (.bastore, 1)) (hs : q_SZ k n) (hin : vp_in i n) (kk : FW g md (pc + 1) l st (q_up h k i.toNatClampNeg x) KK) : FW g md pc l (.int x :: .int i :: .ref k :: st) h KK :=
  QW.zast q_R0len hd hs hin (q_bool_vnar hb) kk
theorem FW.copy {idx k0 k1 n0 n1 : Nat} {sp dp n : Int32} (hd : decode (q_c md) pc = .ok (.invokestatic idx, 3)) (hw : (Cond.methodLink (q_y md).cls idx arraycopyName ∈ TB) ∧ Cond.native arraycopyName ∈ TB ∧ Cond.static arraycopyName ∈ TB ∧ Cond.initialized "java/lang/System" ∈ TB) (hs0 : q_SA k0 n0) (hs1 : q_SA k1 n1) (hb : (¬ sp < 0) ∧ (¬ dp < 0) ∧ (¬ n < 0) ∧ sp.toNatClampNeg + n.toNatClampNeg ≤ n0 ∧ dp.toNatClampNeg + n.toNatClampNeg ≤ n1)
    (hframes : 1 ≤ (q_r md).frames) (hlocals : (st.map fun v => v.category).sum + (nativeFrameWords "java/lang/System" "arraycopy" 5 + 11) ≤ (q_r md).locals) (kk : FW g md (pc + 3) l st (q_upA h k1 (va_cpy (h k0) (h k1) sp.toNatClampNeg dp.toNatClampNeg n.toNatClampNeg)) KK) : FW g md pc l (.int n :: .int dp :: .ref k1 :: .int sp :: .ref k0 :: st) h KK :=
  QW.copy q_R0len hd hw hs0 hs1 hb.1 hb.2.1 hb.2.2.1 hb.2.2.2.1 hb.2.2.2.2 hframes hlocals kk
theorem FW.ret {K : Int32 → Hp → Prop} {x : Int32} (hd : decode (q_c md) pc = .ok (.ireturn, 1)) (ht : q_t md = some .int) (k : K x h) : FW g md pc l [.int x] h (q_RI K) := QW.ireturn hd ⟨rfl, rfl⟩ ⟨_, ht, rfl⟩ ⟨rfl, x, rfl, k⟩
theorem FW.retZ {K : Int32 → Hp → Prop} {x : Int32} (hb : q_bool x) (hd : decode (q_c md) pc = .ok (.ireturn, 1)) (ht : q_t md = some .boolean) (k : K x h) : FW g md pc l [.int x] h (q_RI K) := QW.ireturn hd ⟨rfl, rfl⟩ ⟨_, ht, q_bool_nar hb⟩ ⟨rfl, x, rfl, k⟩
theorem FW.retV {K : Hp → Prop} (hd : decode (q_c md) pc = .ok (.return_, 1)) (ht : q_t md = none) (k : K h) : FW g md pc l [] h (q_RV K) := QW.ret hd ⟨rfl, rfl⟩ ht ⟨rfl, rfl, k⟩
abbrev q_none (md : MD) : Prop := (q_r md).cells = 0 ∧ (q_r md).slots = 0
theorem q_fit0 (h0 : q_none md2) : q_fit md md2 (q_r md).cells (q_r md).slots := ⟨by rw [h0.1]; exact Nat.le_refl _, by rw [h0.2]; exact Nat.le_refl _⟩
theorem q_ci {rr : List Value} (h0 : q_none md2) (v : Option Int32) (ph2 : QH) (hk : q_RI (fun x h2 => FW g md (pc + 3) l (.int x :: rr) h2 KK) v ph2) : QW g md (pc + 3) l (v.toList.map Value.int ++ rr) ph2 ((q_r md).cells + (q_r md2).cells) ((q_r md).slots + (q_r md2).slots) KK := by
  obtain ⟨r, h2⟩ := ph2
  obtain ⟨e, x, ev, hk⟩ := hk
  have e : r = R0 := e
  subst e; subst ev
  rw [h0.1, h0.2]
  exact hk
theorem q_cv {rr : List Value} (h0 : q_none md2) (v : Option Int32) (ph2 : QH) (hk : q_RV (fun h2 => FW g md (pc + 3) l rr h2 KK) v ph2) : QW g md (pc + 3) l (v.toList.map Value.int ++ rr) ph2 ((q_r md).cells + (q_r md2).cells) ((q_r md).slots + (q_r md2).slots) KK := by
  obtain ⟨r, h2⟩ := ph2
  obtain ⟨e, ev, hk⟩ := hk
  have e : r = R0 := e
  subst e; subst ev
  rw [h0.1, h0.2]
  exact hk
theorem FW.callVi {idx n k : Nat} (av rest : List Value) (hstk : stk = av.reverse ++ .ref k :: rest) (hd : decode (q_c md) pc = .ok (.invokevirtual idx, 3)) (hl : q_V (q_y md).cls idx md2 n) (hs : q_SC k (q_y md2).cls) (hn : av.length = n) (hroom : q_room md md2) (h0 : q_none md2) (hst : (rest.map fun v => v.category).sum ≤ 8) (kk : FI g md2 (.ref k :: av) h (fun x h2 => FW g md (pc + 3) l (.int x :: rest) h2 KK)) : FW g md pc l stk h KK := by
  obtain ⟨ci, h1, h2, h3⟩ := hs
  exact QW.callV hstk hd hl (by show k < R0.length; rw [q_R0len]; exact q_shp_lt h1 (by decide)) h1 h2 h3 hn hroom (q_fit0 h0) hst (QC.mono (q_ci h0) kk)
theorem FW.callVv {idx n k : Nat} (av rest : List Value) (hstk : stk = av.reverse ++ .ref k :: rest) (hd : decode (q_c md) pc = .ok (.invokevirtual idx, 3)) (hl : q_V (q_y md).cls idx md2 n) (hs : q_SC k (q_y md2).cls) (hn : av.length = n) (hroom : q_room md md2) (h0 : q_none md2) (hst : (rest.map fun v => v.category).sum ≤ 8) (kk : FV g md2 (.ref k :: av) h (fun h2 => FW g md (pc + 3) l rest h2 KK)) : FW g md pc l stk h KK := by
  obtain ⟨ci, h1, h2, h3⟩ := hs
  exact QW.callV hstk hd hl (by show k < R0.length; rw [q_R0len]; exact q_shp_lt h1 (by decide)) h1 h2 h3 hn hroom (q_fit0 h0) hst (QC.mono (q_cv h0) kk)
theorem FW.callSi {idx n : Nat} (av rest : List Value) (hstk : stk = av.reverse ++ rest) (hd : decode (q_c md) pc = .ok (.invokestatic idx, 3)) (hl : q_S (q_y md).cls idx md2 n) (hn : av.length = n) (hroom : q_room md md2) (h0 : q_none md2) (hst : (rest.map fun v => v.category).sum ≤ 8) (kk : FI g md2 av h (fun x h2 => FW g md (pc + 3) l (.int x :: rest) h2 KK)) : FW g md pc l stk h KK :=
  QW.callS hstk hd hl hn hroom (q_fit0 h0) hst (QC.mono (q_ci h0) kk)
theorem FW.callSv {idx n : Nat} (av rest : List Value) (hstk : stk = av.reverse ++ rest) (hd : decode (q_c md) pc = .ok (.invokestatic idx, 3)) (hl : q_S (q_y md).cls idx md2 n) (hn : av.length = n) (hroom : q_room md md2) (h0 : q_none md2) (hst : (rest.map fun v => v.category).sum ≤ 8) (kk : FV g md2 av h (fun h2 => FW g md (pc + 3) l rest h2 KK)) : FW g md pc l stk h KK :=
  QW.callS hstk hd hl hn hroom (q_fit0 h0) hst (QC.mono (q_cv h0) kk)
theorem FW.callNi {idx n : Nat} (av rest : List Value) (hstk : stk = av.reverse ++ rest) (hd : decode (q_c md) pc = .ok (.invokestatic idx, 3)) (hl : q_SN (q_y md).cls idx md2 n) (hn : av.length = n) (hroom : q_room md md2) (h0 : q_none md2) (hst : (rest.map fun v => v.category).sum ≤ 8) (kk : FI g md2 av h (fun x h2 => FW g md (pc + 3) l (.int x :: rest) h2 KK)) : FW g md pc l stk h KK :=
  QW.callSN hstk hd hl hn hroom (q_fit0 h0) hst (QC.mono (q_ci h0) kk)
theorem FI.of {K : Int32 → Hp → Prop} (l0 : List (Option Value)) (hy : plainFor (q_y md) = true) (h0 : q_none md) (hl : (q_ent av).length ≤ q_n md) (he : q_ent av ++ List.replicate (q_n md - (q_ent av).length) none = l0) (k : FW g md 0 l0 [] h (q_RI K)) : FI g md av h K := by
  subst he
  unfold FW at k
  rw [h0.1, h0.2] at k
  exact QC.of hy hl k
theorem FV.of {K : Hp → Prop} (l0 : List (Option Value)) (hy : plainFor (q_y md) = true) (h0 : q_none md) (hl : (q_ent av).length ≤ q_n md) (he : q_ent av ++ List.replicate (q_n md - (q_ent av).length) none = l0) (k : FW g md 0 l0 [] h (q_RV K)) : FV g md av h K := by
  subst he
  unfold FW at k
  rw [h0.1, h0.2] at k
  exact QC.of hy hl k
end FWr
theorem sC_0 : q_SC 0 RX7 := ⟨7, rfl, rfl, by decide⟩
theorem sR_0_0 : q_SR 0 0 7 1 := ⟨rfl, rfl, rfl, by decide⟩
theorem sR_0_1 : q_SR 0 1 7 7 := ⟨rfl, rfl, rfl, by decide⟩
theorem sR_0_2 : q_SR 0 2 7 16 := ⟨rfl, rfl, rfl, by decide⟩
theorem sR_0_3 : q_SR 0 3 7 20 := ⟨rfl, rfl, rfl, by decide⟩
theorem sR_0_4 : q_SR 0 4 7 24 := ⟨rfl, rfl, rfl, by decide⟩
theorem sR_0_5 : q_SR 0 5 7 26 := ⟨rfl, rfl, rfl, by decide⟩
theorem sR_0_6 : q_SR 0 6 7 31 := ⟨rfl, rfl, rfl, by decide⟩
theorem sR_0_7 : q_SR 0 7 7 36 := ⟨rfl, rfl, rfl, by decide⟩
theorem sR_0_8 : q_SR 0 8 7 41 := ⟨rfl, rfl, rfl, by decide⟩
theorem sC_1 : q_SC 1 RX6 := ⟨6, rfl, rfl, by decide⟩
theorem sI_1_0 : q_SI 1 0 6 := ⟨rfl, rfl⟩
theorem sP_1_0 : q_SP 1 0 6 .int := ⟨rfl, rfl, rfl, rfl⟩
theorem sI_1_1 : q_SI 1 1 6 := ⟨rfl, rfl⟩
theorem sP_1_1 : q_SP 1 1 6 .int := ⟨rfl, rfl, rfl, rfl⟩
theorem sI_1_2 : q_SI 1 2 6 := ⟨rfl, rfl⟩
theorem sP_1_2 : q_SP 1 2 6 .int := ⟨rfl, rfl, rfl, rfl⟩
theorem sR_1_3 : q_SR 1 3 6 2 := ⟨rfl, rfl, rfl, by decide⟩
theorem sR_1_4 : q_SR 1 4 6 3 := ⟨rfl, rfl, rfl, by decide⟩
theorem sR_1_5 : q_SR 1 5 6 4 := ⟨rfl, rfl, rfl, by decide⟩
theorem sR_1_6 : q_SR 1 6 6 5 := ⟨rfl, rfl, rfl, by decide⟩
theorem sR_1_7 : q_SR 1 7 6 6 := ⟨rfl, rfl, rfl, by decide⟩
theorem sA_2 : q_SA 2 6 := rfl
theorem sA_3 : q_SA 3 6 := rfl
theorem sA_4 : q_SA 4 6 := rfl
theorem sA_5 : q_SA 5 6 := rfl
theorem sA_6 : q_SA 6 6 := rfl
theorem sC_7 : q_SC 7 RX5 := ⟨5, rfl, rfl, by decide⟩
theorem sR_7_0 : q_SR 7 0 5 8 := ⟨rfl, rfl, rfl, by decide⟩
theorem sI_7_1 : q_SI 7 1 5 := ⟨rfl, rfl⟩
theorem sP_7_1 : q_SP 7 1 5 .int := ⟨rfl, rfl, rfl, rfl⟩
theorem sR_7_2 : q_SR 7 2 5 9 := ⟨rfl, rfl, rfl, by decide⟩
theorem sI_7_3 : q_SI 7 3 5 := ⟨rfl, rfl⟩
theorem sP_7_3 : q_SP 7 3 5 .int := ⟨rfl, rfl, rfl, rfl⟩
theorem sI_7_4 : q_SI 7 4 5 := ⟨rfl, rfl⟩
theorem sP_7_4 : q_SP 7 4 5 .int := ⟨rfl, rfl, rfl, rfl⟩
theorem sI_7_5 : q_SI 7 5 5 := ⟨rfl, rfl⟩
theorem sP_7_5 : q_SP 7 5 5 .int := ⟨rfl, rfl, rfl, rfl⟩
theorem sI_7_6 : q_SI 7 6 5 := ⟨rfl, rfl⟩
theorem sP_7_6 : q_SP 7 6 5 .int := ⟨rfl, rfl, rfl, rfl⟩
theorem sR_7_7 : q_SR 7 7 5 15 := ⟨rfl, rfl, rfl, by decide⟩
theorem sA_8 : q_SA 8 200 := rfl
theorem sC_9 : q_SC 9 RX6 := ⟨6, rfl, rfl, by decide⟩
theorem sI_9_0 : q_SI 9 0 6 := ⟨rfl, rfl⟩
theorem sP_9_0 : q_SP 9 0 6 .int := ⟨rfl, rfl, rfl, rfl⟩
theorem sI_9_1 : q_SI 9 1 6 := ⟨rfl, rfl⟩
theorem sP_9_1 : q_SP 9 1 6 .int := ⟨rfl, rfl, rfl, rfl⟩
theorem sI_9_2 : q_SI 9 2 6 := ⟨rfl, rfl⟩
theorem sP_9_2 : q_SP 9 2 6 .int := ⟨rfl, rfl, rfl, rfl⟩
theorem sR_9_3 : q_SR 9 3 6 10 := ⟨rfl, rfl, rfl, by decide⟩
theorem sR_9_4 : q_SR 9 4 6 11 := ⟨rfl, rfl, rfl, by decide⟩
theorem sR_9_5 : q_SR 9 5 6 12 := ⟨rfl, rfl, rfl, by decide⟩
theorem sR_9_6 : q_SR 9 6 6 13 := ⟨rfl, rfl, rfl, by decide⟩
theorem sR_9_7 : q_SR 9 7 6 14 := ⟨rfl, rfl, rfl, by decide⟩
theorem sA_10 : q_SA 10 6 := rfl
theorem sA_11 : q_SA 11 6 := rfl
theorem sA_12 : q_SA 12 6 := rfl
theorem sA_13 : q_SA 13 6 := rfl
theorem sA_14 : q_SA 14 6 := rfl
theorem sA_15 : q_SA 15 4 := rfl
theorem sC_16 : q_SC 16 RX3 := ⟨3, rfl, rfl, by decide⟩
theorem sR_16_0 : q_SR 16 0 3 1 := ⟨rfl, rfl, rfl, by decide⟩
theorem sR_16_1 : q_SR 16 1 3 17 := ⟨rfl, rfl, rfl, by decide⟩
theorem sR_16_2 : q_SR 16 2 3 18 := ⟨rfl, rfl, rfl, by decide⟩
theorem sR_16_3 : q_SR 16 3 3 19 := ⟨rfl, rfl, rfl, by decide⟩
theorem sI_16_4 : q_SI 16 4 3 := ⟨rfl, rfl⟩
theorem sP_16_4 : q_SP 16 4 3 .boolean := ⟨rfl, rfl, rfl, rfl⟩
theorem sI_16_5 : q_SI 16 5 3 := ⟨rfl, rfl⟩
theorem sP_16_5 : q_SP 16 5 3 .int := ⟨rfl, rfl, rfl, rfl⟩
theorem sA_17 : q_SA 17 6 := rfl
theorem sA_18 : q_SA 18 6 := rfl
theorem sA_19 : q_SA 19 12 := rfl
theorem sC_20 : q_SC 20 RX2 := ⟨2, rfl, rfl, by decide⟩
theorem sR_20_0 : q_SR 20 0 2 1 := ⟨rfl, rfl, rfl, by decide⟩
theorem sR_20_1 : q_SR 20 1 2 16 := ⟨rfl, rfl, rfl, by decide⟩
theorem sR_20_2 : q_SR 20 2 2 21 := ⟨rfl, rfl, rfl, by decide⟩
theorem sR_20_3 : q_SR 20 3 2 22 := ⟨rfl, rfl, rfl, by decide⟩
theorem sR_20_4 : q_SR 20 4 2 23 := ⟨rfl, rfl, rfl, by decide⟩
theorem sI_20_5 : q_SI 20 5 2 := ⟨rfl, rfl⟩
theorem sP_20_5 : q_SP 20 5 2 .int := ⟨rfl, rfl, rfl, rfl⟩
theorem sI_20_6 : q_SI 20 6 2 := ⟨rfl, rfl⟩
theorem sP_20_6 : q_SP 20 6 2 .int := ⟨rfl, rfl, rfl, rfl⟩
theorem sA_21 : q_SA 21 6 := rfl
theorem sA_22 : q_SA 22 6 := rfl
theorem sA_23 : q_SA 23 6 := rfl
theorem sC_24 : q_SC 24 RX1 := ⟨1, rfl, rfl, by decide⟩
theorem sR_24_0 : q_SR 24 0 1 1 := ⟨rfl, rfl, rfl, by decide⟩
theorem sR_24_1 : q_SR 24 1 1 20 := ⟨rfl, rfl, rfl, by decide⟩
theorem sR_24_2 : q_SR 24 2 1 25 := ⟨rfl, rfl, rfl, by decide⟩
theorem sI_24_3 : q_SI 24 3 1 := ⟨rfl, rfl⟩
theorem sP_24_3 : q_SP 24 3 1 .int := ⟨rfl, rfl, rfl, rfl⟩
theorem sI_24_4 : q_SI 24 4 1 := ⟨rfl, rfl⟩
theorem sP_24_4 : q_SP 24 4 1 .int := ⟨rfl, rfl, rfl, rfl⟩
theorem sI_24_5 : q_SI 24 5 1 := ⟨rfl, rfl⟩
theorem sP_24_5 : q_SP 24 5 1 .int := ⟨rfl, rfl, rfl, rfl⟩
theorem sI_24_6 : q_SI 24 6 1 := ⟨rfl, rfl⟩
theorem sP_24_6 : q_SP 24 6 1 .int := ⟨rfl, rfl, rfl, rfl⟩
theorem sA_25 : q_SA 25 384 := rfl
theorem sC_26 : q_SC 26 RX0 := ⟨0, rfl, rfl, by decide⟩
theorem sI_26_0 : q_SI 26 0 0 := ⟨rfl, rfl⟩
theorem sP_26_0 : q_SP 26 0 0 .int := ⟨rfl, rfl, rfl, rfl⟩
theorem sI_26_1 : q_SI 26 1 0 := ⟨rfl, rfl⟩
theorem sP_26_1 : q_SP 26 1 0 .boolean := ⟨rfl, rfl, rfl, rfl⟩
theorem sI_26_2 : q_SI 26 2 0 := ⟨rfl, rfl⟩
theorem sP_26_2 : q_SP 26 2 0 .boolean := ⟨rfl, rfl, rfl, rfl⟩
theorem sI_26_3 : q_SI 26 3 0 := ⟨rfl, rfl⟩
theorem sP_26_3 : q_SP 26 3 0 .int := ⟨rfl, rfl, rfl, rfl⟩
theorem sR_26_4 : q_SR 26 4 0 27 := ⟨rfl, rfl, rfl, by decide⟩
theorem sR_26_5 : q_SR 26 5 0 28 := ⟨rfl, rfl, rfl, by decide⟩
theorem sR_26_6 : q_SR 26 6 0 29 := ⟨rfl, rfl, rfl, by decide⟩
theorem sR_26_7 : q_SR 26 7 0 30 := ⟨rfl, rfl, rfl, by decide⟩
theorem sA_27 : q_SA 27 6 := rfl
theorem sA_28 : q_SA 28 6 := rfl
theorem sA_29 : q_SA 29 12 := rfl
theorem sA_30 : q_SA 30 6 := rfl
theorem sC_31 : q_SC 31 RX0 := ⟨0, rfl, rfl, by decide⟩
theorem sI_31_0 : q_SI 31 0 0 := ⟨rfl, rfl⟩
theorem sP_31_0 : q_SP 31 0 0 .int := ⟨rfl, rfl, rfl, rfl⟩
theorem sI_31_1 : q_SI 31 1 0 := ⟨rfl, rfl⟩
theorem sP_31_1 : q_SP 31 1 0 .boolean := ⟨rfl, rfl, rfl, rfl⟩
theorem sI_31_2 : q_SI 31 2 0 := ⟨rfl, rfl⟩
theorem sP_31_2 : q_SP 31 2 0 .boolean := ⟨rfl, rfl, rfl, rfl⟩
theorem sI_31_3 : q_SI 31 3 0 := ⟨rfl, rfl⟩
theorem sP_31_3 : q_SP 31 3 0 .int := ⟨rfl, rfl, rfl, rfl⟩
theorem sR_31_4 : q_SR 31 4 0 32 := ⟨rfl, rfl, rfl, by decide⟩
theorem sR_31_5 : q_SR 31 5 0 33 := ⟨rfl, rfl, rfl, by decide⟩
theorem sR_31_6 : q_SR 31 6 0 34 := ⟨rfl, rfl, rfl, by decide⟩
theorem sR_31_7 : q_SR 31 7 0 35 := ⟨rfl, rfl, rfl, by decide⟩
theorem sA_32 : q_SA 32 6 := rfl
theorem sA_33 : q_SA 33 6 := rfl
theorem sA_34 : q_SA 34 12 := rfl
theorem sA_35 : q_SA 35 6 := rfl
theorem sC_36 : q_SC 36 RX0 := ⟨0, rfl, rfl, by decide⟩
theorem sI_36_0 : q_SI 36 0 0 := ⟨rfl, rfl⟩
theorem sP_36_0 : q_SP 36 0 0 .int := ⟨rfl, rfl, rfl, rfl⟩
theorem sI_36_1 : q_SI 36 1 0 := ⟨rfl, rfl⟩
theorem sP_36_1 : q_SP 36 1 0 .boolean := ⟨rfl, rfl, rfl, rfl⟩
theorem sI_36_2 : q_SI 36 2 0 := ⟨rfl, rfl⟩
theorem sP_36_2 : q_SP 36 2 0 .boolean := ⟨rfl, rfl, rfl, rfl⟩
theorem sI_36_3 : q_SI 36 3 0 := ⟨rfl, rfl⟩
theorem sP_36_3 : q_SP 36 3 0 .int := ⟨rfl, rfl, rfl, rfl⟩
theorem sR_36_4 : q_SR 36 4 0 37 := ⟨rfl, rfl, rfl, by decide⟩
theorem sR_36_5 : q_SR 36 5 0 38 := ⟨rfl, rfl, rfl, by decide⟩
theorem sR_36_6 : q_SR 36 6 0 39 := ⟨rfl, rfl, rfl, by decide⟩
theorem sR_36_7 : q_SR 36 7 0 40 := ⟨rfl, rfl, rfl, by decide⟩
theorem sA_37 : q_SA 37 6 := rfl
theorem sA_38 : q_SA 38 6 := rfl
theorem sA_39 : q_SA 39 12 := rfl
theorem sA_40 : q_SA 40 6 := rfl
theorem sC_41 : q_SC 41 RX4 := ⟨4, rfl, rfl, by decide⟩
theorem sI_41_0 : q_SI 41 0 4 := ⟨rfl, rfl⟩
theorem sP_41_0 : q_SP 41 0 4 .int := ⟨rfl, rfl, rfl, rfl⟩
theorem sR_41_1 : q_SR 41 1 4 42 := ⟨rfl, rfl, rfl, by decide⟩
theorem sR_41_2 : q_SR 41 2 4 43 := ⟨rfl, rfl, rfl, by decide⟩
theorem sA_42 : q_SA 42 6 := rfl
theorem sA_43 : q_SA 43 6 := rfl
theorem sC_44 : q_SC 44 RX8 := ⟨8, rfl, rfl, by decide⟩
theorem sR_44_0 : q_SR 44 0 8 45 := ⟨rfl, rfl, rfl, by decide⟩
theorem sR_44_1 : q_SR 44 1 8 46 := ⟨rfl, rfl, rfl, by decide⟩
theorem sR_44_2 : q_SR 44 2 8 47 := ⟨rfl, rfl, rfl, by decide⟩
theorem sI_44_3 : q_SI 44 3 8 := ⟨rfl, rfl⟩
theorem sP_44_3 : q_SP 44 3 8 .int := ⟨rfl, rfl, rfl, rfl⟩
theorem sR_44_4 : q_SR 44 4 8 48 := ⟨rfl, rfl, rfl, by decide⟩
theorem sI_44_5 : q_SI 44 5 8 := ⟨rfl, rfl⟩
theorem sP_44_5 : q_SP 44 5 8 .int := ⟨rfl, rfl, rfl, rfl⟩
theorem sI_44_6 : q_SI 44 6 8 := ⟨rfl, rfl⟩
theorem sP_44_6 : q_SP 44 6 8 .int := ⟨rfl, rfl, rfl, rfl⟩
theorem sI_44_7 : q_SI 44 7 8 := ⟨rfl, rfl⟩
theorem sP_44_7 : q_SP 44 7 8 .int := ⟨rfl, rfl, rfl, rfl⟩
theorem sR_44_8 : q_SR 44 8 8 49 := ⟨rfl, rfl, rfl, by decide⟩
theorem sR_44_9 : q_SR 44 9 8 50 := ⟨rfl, rfl, rfl, by decide⟩
theorem sR_44_10 : q_SR 44 10 8 51 := ⟨rfl, rfl, rfl, by decide⟩
theorem sR_44_11 : q_SR 44 11 8 52 := ⟨rfl, rfl, rfl, by decide⟩
theorem sR_44_12 : q_SR 44 12 8 53 := ⟨rfl, rfl, rfl, by decide⟩
theorem sI_44_13 : q_SI 44 13 8 := ⟨rfl, rfl⟩
theorem sP_44_13 : q_SP 44 13 8 .int := ⟨rfl, rfl, rfl, rfl⟩
theorem sI_44_14 : q_SI 44 14 8 := ⟨rfl, rfl⟩
theorem sP_44_14 : q_SP 44 14 8 .int := ⟨rfl, rfl, rfl, rfl⟩
theorem sI_44_15 : q_SI 44 15 8 := ⟨rfl, rfl⟩
theorem sP_44_15 : q_SP 44 15 8 .int := ⟨rfl, rfl, rfl, rfl⟩
theorem sI_44_16 : q_SI 44 16 8 := ⟨rfl, rfl⟩
theorem sP_44_16 : q_SP 44 16 8 .int := ⟨rfl, rfl, rfl, rfl⟩
theorem sI_44_17 : q_SI 44 17 8 := ⟨rfl, rfl⟩
theorem sP_44_17 : q_SP 44 17 8 .int := ⟨rfl, rfl, rfl, rfl⟩
theorem sI_44_18 : q_SI 44 18 8 := ⟨rfl, rfl⟩
theorem sP_44_18 : q_SP 44 18 8 .int := ⟨rfl, rfl, rfl, rfl⟩
theorem sI_44_19 : q_SI 44 19 8 := ⟨rfl, rfl⟩
theorem sP_44_19 : q_SP 44 19 8 .int := ⟨rfl, rfl, rfl, rfl⟩
theorem sR_44_20 : q_SR 44 20 8 54 := ⟨rfl, rfl, rfl, by decide⟩
theorem sR_44_21 : q_SR 44 21 8 55 := ⟨rfl, rfl, rfl, by decide⟩
theorem sR_44_22 : q_SR 44 22 8 56 := ⟨rfl, rfl, rfl, by decide⟩
theorem sI_44_23 : q_SI 44 23 8 := ⟨rfl, rfl⟩
theorem sP_44_23 : q_SP 44 23 8 .int := ⟨rfl, rfl, rfl, rfl⟩
theorem sI_44_24 : q_SI 44 24 8 := ⟨rfl, rfl⟩
theorem sP_44_24 : q_SP 44 24 8 .int := ⟨rfl, rfl, rfl, rfl⟩
theorem sI_44_25 : q_SI 44 25 8 := ⟨rfl, rfl⟩
theorem sP_44_25 : q_SP 44 25 8 .int := ⟨rfl, rfl, rfl, rfl⟩
theorem sR_44_26 : q_SR 44 26 8 57 := ⟨rfl, rfl, rfl, by decide⟩
theorem sR_44_27 : q_SR 44 27 8 58 := ⟨rfl, rfl, rfl, by decide⟩
theorem sR_44_28 : q_SR 44 28 8 59 := ⟨rfl, rfl, rfl, by decide⟩
theorem sR_44_29 : q_SR 44 29 8 60 := ⟨rfl, rfl, rfl, by decide⟩
theorem sI_44_30 : q_SI 44 30 8 := ⟨rfl, rfl⟩
theorem sP_44_30 : q_SP 44 30 8 .int := ⟨rfl, rfl, rfl, rfl⟩
theorem sA_45 : q_SA 45 81 := rfl
theorem sZ_46 : q_SZ 46 2 := rfl
theorem sA_47 : q_SA 47 200 := rfl
theorem sA_48 : q_SA 48 60 := rfl
theorem sA_49 : q_SA 49 6 := rfl
theorem sA_50 : q_SA 50 6 := rfl
theorem sA_51 : q_SA 51 6 := rfl
theorem sA_52 : q_SA 52 6 := rfl
theorem sA_53 : q_SA 53 6 := rfl
theorem sA_54 : q_SA 54 6 := rfl
theorem sA_55 : q_SA 55 6 := rfl
theorem sA_56 : q_SA 56 6 := rfl
theorem sA_57 : q_SA 57 6 := rfl
theorem sA_58 : q_SA 58 384 := rfl
theorem sA_59 : q_SA 59 6 := rfl
theorem sA_60 : q_SA 60 12 := rfl
