/-! what the Statement gives at the law's entry, as the pure machine's world asks it -/
theorem st_ex : ∀ i : Nat, i < 8 → Cond.exactly (.string RX5 (q_strI.getD i 0)) "java/lang/String" ∈ flatC (Jvm.Cond.and given_1 narrow_1) := by decide +kernel
theorem st_co : ∀ i : Nat, i < 8 → Cond.eq (.field (.string RX5 (q_strI.getD i 0)) "java/lang/String" "coder" "B") (.int 0) ∈ flatC (Jvm.Cond.and given_1 narrow_1) := by decide +kernel
theorem st_ar : ∀ i : Nat, i < 8 → Cond.arrayOf (.field (.string RX5 (q_strI.getD i 0)) "java/lang/String" "value" "[B") .byte ∈ flatC (Jvm.Cond.and given_1 narrow_1) := by decide +kernel
theorem st_le : ∀ i : Nat, i < 8 → Cond.eq (.length (.field (.string RX5 (q_strI.getD i 0)) "java/lang/String" "value" "[B")) (.int (Int32.ofNat (q_strL.getD i 0))) ∈ flatC (Jvm.Cond.and given_1 narrow_1) := by decide +kernel
theorem st_el : ∀ i : Nat, i < 8 → ∀ j : Nat, j < q_strL.getD i 0 → Cond.eq (.elem (.field (.string RX5 (q_strI.getD i 0)) "java/lang/String" "value" "[B") (.int (Int32.ofNat j))) (.int ((q_strB.getD i []).getD j 0)) ∈ flatC (Jvm.Cond.and given_1 narrow_1) := by decide +kernel
theorem st_ne : ∀ i : Nat, i < 8 → ∀ j : Nat, j < 8 → i ≠ j → Cond.not (Cond.eq (.string RX5 (q_strI.getD i 0)) (.string RX5 (q_strI.getD j 0))) ∈ flatC (Jvm.Cond.and given_1 narrow_1) ∨ Cond.not (Cond.eq (.string RX5 (q_strI.getD j 0)) (.string RX5 (q_strI.getD i 0))) ∈ flatC (Jvm.Cond.and given_1 narrow_1) := by decide +kernel
theorem st_cs : Cond.eq (.static "java/lang/String" "COMPACT_STRINGS" "Z") (.int 1) ∈ flatC (Jvm.Cond.and given_1 narrow_1) := by decide +kernel
theorem st_fm : Cond.isRef (.static "jdk/internal/util/Preconditions" "SIOOBE_FORMATTER" "Ljava/util/function/BiFunction;") ∈ flatC (Jvm.Cond.and given_1 narrow_1) := by decide +kernel
theorem st_sr : ∀ i : Nat, i < 8 → Cond.stringRef RX5 (q_strI.getD i 0) (q_strT.getD i "") ∈ lw_tbl := by decide +kernel
theorem st_lcs : Cond.laysStatic "java/lang/String" "COMPACT_STRINGS" "Z" ∈ lw_tbl := by decide +kernel
theorem st_lfm : Cond.laysStatic "jdk/internal/util/Preconditions" "SIOOBE_FORMATTER" "Ljava/util/function/BiFunction;" ∈ lw_tbl := by decide +kernel
theorem st_ics : Cond.initialized "java/lang/String" ∈ lw_tbl := by decide +kernel
theorem st_ifm : Cond.initialized "jdk/internal/util/Preconditions" ∈ lw_tbl := by decide +kernel
theorem st_len : ∀ i : Nat, i < 8 → q_strL.getD i 0 < 2 ^ 31 := by decide
/-- the classes and the two kinds of arrays -/
theorem st_K {s : State} {args : Array Value} (hts : ∀ w ∈ TB, w.before args s = true) : ∃ (D : va_G) (cI cZ : ClassId), va_K D CL [(cI, .int), (cZ, .boolean)] s := by
  have h : ∀ k : Nat, ∃ r : ClassId × (Nat → Nat), ∀ q : vw_C, CL[k]? = some q → u_Kn s q.1 q.2.1 q.2.2 r.1 r.2 := by
    intro k
    match k with
    | 0 => obtain ⟨c, i, h⟩ := u_known hts iw0 (hts _ ib0); exact ⟨(c, i), fun q hq => by cases hq; exact h⟩
    | 1 => obtain ⟨c, i, h⟩ := u_known hts iw1 (hts _ ib1); exact ⟨(c, i), fun q hq => by cases hq; exact h⟩
    | 2 => obtain ⟨c, i, h⟩ := u_known hts iw2 (hts _ ib2); exact ⟨(c, i), fun q hq => by cases hq; exact h⟩
    | 3 => obtain ⟨c, i, h⟩ := u_known hts iw3 (hts _ ib3); exact ⟨(c, i), fun q hq => by cases hq; exact h⟩
    | 4 => obtain ⟨c, i, h⟩ := u_known hts iw4 (hts _ ib4); exact ⟨(c, i), fun q hq => by cases hq; exact h⟩
    | 5 => obtain ⟨c, i, h⟩ := u_known hts iw5 (hts _ ib5); exact ⟨(c, i), fun q hq => by cases hq; exact h⟩
    | 6 => obtain ⟨c, i, h⟩ := u_known hts iw6 (hts _ ib6); exact ⟨(c, i), fun q hq => by cases hq; exact h⟩
    | 7 => obtain ⟨c, i, h⟩ := u_known hts iw7 (hts _ ib7); exact ⟨(c, i), fun q hq => by cases hq; exact h⟩
    | 8 => obtain ⟨c, i, h⟩ := u_known hts iw8 (hts _ ib8); exact ⟨(c, i), fun q hq => by cases hq; exact h⟩
    | k + 9 => exact ⟨(0, fun _ => 0), fun q hq => by simp [CL] at hq⟩
  obtain ⟨r, hr⟩ := Classical.axiomOfChoice h
  obtain ⟨cI, kI, pI, a1, a2, a3⟩ := Cond.arrayClass_spec (hts _ la_int)
  obtain ⟨cZ, kZ, pZ, b1, b2, b3⟩ := Cond.arrayClass_spec (hts _ la_boolean)
  refine ⟨(fun k => (r k).1, fun k => (r k).2), cI, cZ, fun k q hq => hr k q hq, fun k q hk => ?_⟩
  match k with
  | 0 => cases hk; exact ⟨fun n z => ⟨fun k h => (by cases h), kI, a2, pI, a3⟩, a1⟩
  | 1 => cases hk; exact ⟨fun n z => ⟨fun k h => (by cases h), kZ, b2, pZ, b3⟩, b1⟩
  | k + 2 => simp at hk
/-- the numbers of the old cells that the law reads: the script, the eight Strings, their bytes, the formatter -/
def st_o (b f : Nat) (aK aV : Nat → Nat) : Nat → Nat := fun k => if k = 1000 then b else if k = 4000 then f else if k < 3000 then aK (k - 2000) else aV (k - 3000)
theorem st_oK (b f : Nat) (aK aV : Nat → Nat) {i : Nat} (h : i < 8) : st_o b f aK aV (2000 + i) = aK i := by
  unfold st_o
  rw [if_neg (by omega), if_neg (by omega), if_pos (by omega), show 2000 + i - 2000 = i by omega]
theorem st_oV (b f : Nat) (aK aV : Nat → Nat) {i : Nat} (h : i < 8) : st_o b f aK aV (3000 + i) = aV i := by
  unfold st_o
  rw [if_neg (by omega), if_neg (by omega), if_neg (by omega), show 3000 + i - 3000 = i by omega]
theorem st_world {s : State} {b L : Nat} {xs : Nat → Int32} (l : Launch) (hts : ∀ w ∈ lw_tbl, w.before #[Value.ref b] s = true) (hX : va_X b L xs s s.heap) (hbl : b < s.heap.size) (hgv : (Jvm.Cond.and given_1 narrow_1).before #[Value.ref b] s = true) :
    ∃ g : QG, QOK g ∧ q_Fm g ∧ q_l g = l ∧ q_s g = s ∧ q_L g = L ∧ q_o g 1000 = b := by
  have hs := flat_of_before _ hgv
  have hA : ∀ a : Nat, a < s.heap.size → ¬ (fun q : Nat => s.heap.size ≤ q) a := fun a h => Nat.not_le.mpr h
  obtain ⟨D, cI, cZ, hK⟩ := st_K (TB_sub hts)
  obtain ⟨aK, aV, hS, hE⟩ := vk_Sof (A := fun q : Nat => s.heap.size ≤ q) (tm := fun i => .string RX5 (q_strI.getD i 0)) (len := q_strL) (byt := q_strB) st_len (fun i hi => hs _ (st_ex i hi)) (fun i hi => hs _ (st_co i hi)) (fun i hi => hs _ (st_ar i hi)) (fun i hi => hs _ (st_le i hi)) (fun i hi j hj => hs _ (st_el i hi j hj)) (fun i j hi hj e => (st_ne i hi j hj e).imp (hs _) (hs _)) hA
  have hC := va_Zof (A := fun q : Nat => s.heap.size ≤ q) (hts _ st_lcs) (hts _ st_ics) (va_eqi (hs _ st_cs)) hA
  obtain ⟨f, hF⟩ : ∃ f : Nat, va_Z "jdk/internal/util/Preconditions" "SIOOBE_FORMATTER" "Ljava/util/function/BiFunction;" .null (fun q : Nat => s.heap.size ≤ q) s s.heap ∨ va_Z "jdk/internal/util/Preconditions" "SIOOBE_FORMATTER" "Ljava/util/function/BiFunction;" (.ref f) (fun q : Nat => s.heap.size ≤ q) s s.heap := by
    rcases va_Zqof (A := fun q : Nat => s.heap.size ≤ q) (hts _ st_lfm) (hts _ st_ifm) (hs _ st_fm) hA with h | ⟨t, h⟩
    · exact ⟨0, Or.inl h⟩
    · exact ⟨t, Or.inr h⟩
  refine ⟨(l, s, D, (cI, cZ), st_o b f aK aV, L, xs), ⟨hK, ?_, hX, hbl, ?_, ?_, hC⟩, hF, rfl, rfl, rfl, rfl⟩
  · intro w hw a i y h e
    subst e
    exact va_Nw.of rfl (hts _ hw)
  · intro i hi
    show vk_R RX5 (q_strI.getD i 0) (q_strT.getD i "") (st_o b f aK aV (2000 + i)) s
    rw [st_oK b f aK aV hi]
    exact vk_R.of (hts _ (st_sr i hi)) (hE i hi)
  · show vk_S 8 q_strL q_strB (fun i => st_o b f aK aV (2000 + i)) (fun i => st_o b f aK aV (3000 + i)) (fun q : Nat => s.heap.size ≤ q) s s.heap
    refine ⟨fun i hi => ?_, fun i j hi hj e => ?_⟩
    · have := hS.1 i hi
      simp only [st_oK b f aK aV hi, st_oV b f aK aV hi]
      exact this
    · simp only [st_oK b f aK aV hi, st_oK b f aK aV hj] at e
      exact hS.2 i j hi hj e
