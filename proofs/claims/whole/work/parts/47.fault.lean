/-! fault, inn -/
section Fa
variable {g : QG} {h : Hp} {K : Int32 → Hp → Prop} {KV : Hp → Prop} {B : Nat → Nat} {L : Nat}
theorem TxR.xm (a : TxR h) : ∃ (B : Nat → Nat) (L : Nat), TX h B L ∧ TM h B L := by
  obtain ⟨L, hL, e1, e2, e3⟩ := a
  refine ⟨fun i => (h 8 i).toNatClampNeg, L, ⟨hL, e1, fun i hi => ?_⟩, ⟨hL, e2, fun i hi => ?_⟩⟩
  · obtain ⟨b, hb, f1, f2⟩ := e3 i hi
    show h 8 i = nI (h 8 i).toNatClampNeg ∧ (h 8 i).toNatClampNeg < 256
    rw [f1, ix_nI (by omega)]
    exact ⟨rfl, hb⟩
  · obtain ⟨b, hb, f1, f2⟩ := e3 i hi
    show h 47 i = nI (h 8 i).toNatClampNeg ∧ (h 8 i).toNatClampNeg < 256
    rw [f1, f2, ix_nI (by omega)]
    exact ⟨rfl, hb⟩
theorem cpy6 (f f2 : Nat → Int32) {k : Nat} (hk : k < 6) : va_cpy f f2 0 0 6 k = f k := by
  unfold va_cpy
  rw [if_pos (by omega), Nat.sub_zero, Nat.zero_add]
theorem TdR.dB {p n c : Nat} {kd sg pc wy wt : Nat → Nat} (a : TdR h p n c kd sg pc wy wt) : dB (p, n, c, kd, sg, pc, wy, wt) := a.1
theorem TdR.dR {p n c : Nat} {kd sg pc wy wt : Nat → Nat} (a : TdR h p n c kd sg pc wy wt) : dR (p, n, c, kd, sg, pc, wy, wt) := fun k hk => by
  obtain ⟨a1, a2, a3, a4, a5⟩ := a.2.2.2 k hk
  exact ⟨a1.2.2, a2.2.2, a3.2.2, a4.2.2, a5.2.2⟩
theorem c_read {p n c : Nat} {kd sg pc wy wt : Nat → Nat} (hQ : StrOK g) (hT : TdR h p n c kd sg pc wy wt) (hX : TX h B L) (kk : ∀ h2 : Hp, OnlyT cX [3, 4, 5, 6] h h2 → ((rf B L 12 (p, n, c, kd, sg, pc, wy, wt) 0 0).1 = none → DX h2 (rf B L 12 (p, n, c, kd, sg, pc, wy, wt) 0 0).2.1 ∧ h2 7 3 = nI (rf B L 12 (p, n, c, kd, sg, pc, wy, wt) 0 0).2.2.length) → K (oI (rf B L 12 (p, n, c, kd, sg, pc, wy, wt) 0 0).1) h2) : FI g mX5_read [.ref 7, .ref 1] h K := by
  have hn := hT.1.2.2.1
  refine eX5_read (vX5_read_0 (eX6_copyFrom_r9_1 (vX6_copyFrom_r9_1_0 ?_)))
  have o1 : OnlyT cX [3, 4, 5, 6] h (q_up (q_up (q_upA (q_upA (q_upA (q_upA (q_upA (q_up (q_up (q_up h 9 0 (h 1 0)) 9 1 (h 1 1)) 9 2 (h 1 2)) 10 (va_cpy (h 2) (h 10) 0 0 6)) 11 (va_cpy (h 3) (h 11) 0 0 6)) 12 (va_cpy (h 4) (h 12) 0 0 6)) 13 (va_cpy (h 5) (h 13) 0 0 6)) 14 (va_cpy (h 6) (h 14) 0 0 6)) 7 5 0) 7 3 1) := by
    refine ⟨fun k hk h7 => ?_, fun j hj => ?_⟩
    · simp only [cX, List.mem_cons, List.not_mem_nil, or_false, not_or] at hk
      rw [up_cell _ _ _ _ h7, up_cell _ _ _ _ h7, q_upA_ne hk.2.2.2.2.2.1, q_upA_ne hk.2.2.2.2.1, q_upA_ne hk.2.2.2.1, q_upA_ne hk.2.2.1, q_upA_ne hk.2.1, up_cell _ _ _ _ hk.1, up_cell _ _ _ _ hk.1, up_cell _ _ _ _ hk.1]
    · simp only [List.mem_cons, List.not_mem_nil, or_false, not_or] at hj
      rw [up_row _ _ _ _ hj.1, up_row _ _ _ _ hj.2.2.1]
      rfl
  refine l_read (g := g) (h0 := h) hQ 12 0 (p, n, c, kd, sg, pc, wy, wt) 0 0 _ rfl (hX.keep o1 (by decide) (by decide)) hT.dB ?_ rfl (Nat.zero_le _) rfl (fun z => by cases z) o1 (fun h2 o2 q2 => kk h2 o2 (fun z => ?_))
  · refine ⟨⟨hT.2.1.1, hT.2.1.2.1, hT.2.1.2.2⟩, fun k hk => ?_⟩
    have hk : k < n := hk
    obtain ⟨a1, a2, a3, a4, a5⟩ := hT.2.2.2 k hk
    exact ⟨(cpy6 _ _ (by omega)).trans a1.1, (cpy6 _ _ (by omega)).trans a2.1, (cpy6 _ _ (by omega)).trans a3.1, (cpy6 _ _ (by omega)).trans a4.1, (cpy6 _ _ (by omega)).trans a5.1⟩
  · obtain ⟨q3, q4⟩ := q2 z
    exact ⟨q3, by rw [q4, Nat.zero_add]⟩
theorem c_fault {D : Dt} (hB : dB D) (hX : TM h B L) (e6 : h 44 6 = nI D.1) (e7 : h 44 7 = nI D.2.2.1) (e13 : h 44 13 = nI D.2.1) (kk : ∀ h2 : Hp, OnlyM [48] [5, 14, 15, 16, 17, 18, 19] h h2 → ((rf B L 12 D 0 0).1 = none → (∀ j, j < (rf B L 12 D 0 0).2.2.length → LnR h2 j ((rf B L 12 D 0 0).2.2.getD j zl)) ∧ h2 44 5 = nI (rf B L 12 D 0 0).2.2.length) → K (oI (rf B L 12 D 0 0).1) h2) : FI g mX8_fault [.ref 44] h K := by
  refine eX8_fault (vX8_fault_0 ?_)
  have o1 : OnlyM [48] [5, 14, 15, 16, 17, 18, 19] h (q_up (q_up (q_up (q_up (q_up h 44 14 0) 44 5 0) 44 17 (h 44 6)) 44 18 (h 44 7)) 44 19 (h 44 13)) := ((((OnlyM.upF (by decide)).trans (OnlyM.upF (by decide))).trans (OnlyM.upF (by decide))).trans (OnlyM.upF (by decide))).trans (OnlyM.upF (by decide))
  have hX1 := hX.keep o1 (by decide) (by decide)
  refine c_token (e := 0) hX1 rfl (Nat.zero_le _) (fun h2 o2 f5 f4 f6 => ?_)
  refine l_fault (g := g) (h0 := h) 11 0 D 0 0 h2 rfl (hX1.keep o2 (by decide) (by decide)) hB ⟨?_, ?_, ?_⟩ ⟨f5, f4, f6⟩ (Nat.zero_le _) (by rw [o2.2 5 (by decide)]; rfl) (o1.trans (o2.weaken (by decide) (by decide))) (fun h3 o3 _ q3 => kk h3 o3 (fun z => ?_))
  · rw [o2.2 17 (by decide)]; exact e6
  · rw [o2.2 18 (by decide)]; exact e7
  · rw [o2.2 19 (by decide)]; exact e13
  · obtain ⟨q4, q5⟩ := q3 z
    refine ⟨fun j hj => ?_, by rw [q5, Nat.zero_add]⟩
    have := q4 j hj
    rw [Nat.zero_add] at this
    exact this
theorem pers_T {k j : Nat} {h2 : Hp} (o : OnlyT cX [3, 4, 5, 6] h h2) (hp : pers k j = true) : h2 k j = h k j := by
  by_cases e : k = 7
  · subst e
    refine o.2 j ?_
    intro hm
    simp only [List.mem_cons, List.not_mem_nil, or_false] at hm
    rcases hm with rfl | rfl | rfl | rfl <;> cases hp
  · rw [o.1 k ?_ e]
    intro hm
    simp only [cX, List.mem_cons, List.not_mem_nil, or_false] at hm
    rcases hm with rfl | rfl | rfl | rfl | rfl | rfl | rfl <;> cases hp
theorem op_fault (hQ : StrOK g) (hS : Sim h) : FI g mX7_fault [.ref 0] h (fun r h1 => FI g mX8_fault [.ref 44] h1 (fun r2 h2 => r = r2 ∧ Sim h2)) := by
  obtain ⟨p, n, c, kd, sg, pc, wy, wt, hT, hTx, -⟩ := (Sim.iff h).mp hS
  obtain ⟨B, L, hX, hM⟩ := hTx.xm
  refine eX7_fault (vX7_fault_0 (c_read hQ hT hX (fun h2 o2 _ => ?_)))
  have hS2 : Sim h2 := hS.congr (fun k j hp => pers_T o2 hp)
  have e44 : h2 44 = h 44 := o2.1 44 (by decide) (by decide)
  refine c_fault (D := (p, n, c, kd, sg, pc, wy, wt)) hT.dB (B := B) (L := L) ⟨hM.1, by rw [e44]; exact hM.2.1, by rw [o2.1 47 (by decide) (by decide)]; exact hM.2.2⟩ (by rw [e44]; exact hT.2.2.1.1) (by rw [e44]; exact hT.2.2.1.2.1) (by rw [e44]; exact hT.2.2.1.2.2) (fun h3 o3 _ => ⟨rfl, hS2.m (o3.weaken (by decide) (by decide))⟩)
/-- what the reference was told -/
def MTd (h : Hp) (D : Dt) : Prop := (h 44 6 = nI D.1 ∧ h 44 7 = nI D.2.2.1 ∧ h 44 13 = nI D.2.1) ∧ ∀ k, k < D.2.1 → h 49 k = nI (D.2.2.2.1 k) ∧ h 50 k = nI (D.2.2.2.2.1 k) ∧ h 51 k = nI (D.2.2.2.2.2.1 k) ∧ h 52 k = nI (D.2.2.2.2.2.2.1 k) ∧ h 53 k = nI (D.2.2.2.2.2.2.2 k)
abbrev mT : List Nat := [49, 50, 51, 52, 53]
theorem c_tell {D : Dt} {l : Ln} {j : Nat} (hj : j < 12) (hB : dB D) (ok : okl D l) (hL : LnR h j l) (hM : MTd h D) (kk : ∀ h2 : Hp, OnlyM mT [6, 7, 13] h h2 → MTd h2 (apl D l) → KV h2) : FV g mX8_tell [.ref 44, .int (nI (5 * j))] h KV := by
  obtain ⟨b1, b2, b3, b4⟩ := hB
  obtain ⟨k1, k2, k3, k4⟩ := ok
  obtain ⟨l1, l2, l3⟩ := hL
  have hc4 := a_lt b2 b4
  obtain ⟨w, v0, v1, v2, v3⟩ := l
  simp only at k1 k2 k3 k4 l1 l2 l3
  have vj : ∀ i, i < 5 → vp_in (nI (5 * j) + nI i) 60 := fun i hi => by rw [nI_add]; exact vp_in_nI (by omega) (by decide)
  have v0' : vp_in (nI (5 * j)) 60 := vp_in_nI (by omega) (by decide)
  have ixj : (nI (5 * j)).toNatClampNeg = 5 * j := ix_nI (by omega)
  have ix1 : (nI (5 * j) + 1).toNatClampNeg = 5 * j + 1 := by rw [nI_1]; exact ix_nI (by omega)
  have ix2 : (nI (5 * j) + 2).toNatClampNeg = 5 * j + 2 := by rw [show (2 : Int32) = nI 2 from rfl, nI_add]; exact ix_nI (by omega)
  have ix3 : (nI (5 * j) + 3).toNatClampNeg = 5 * j + 3 := by rw [show (3 : Int32) = nI 3 from rfl, nI_add]; exact ix_nI (by omega)
  have ix4 : (nI (5 * j) + 4).toNatClampNeg = 5 * j + 4 := by rw [show (4 : Int32) = nI 4 from rfl, nI_add]; exact ix_nI (by omega)
  refine eX8_tell (vX8_tell_0 ⟨vj 1 (by decide), v0', ?_⟩)
  rw [ixj, ix1, ix2, ix3, ix4, l1]
  have gst : 3 ≤ w → w ≤ 6 → vp_in (nI (5 * j)) 60 ∧ vp_in (h 44 13) 6 ∧ vp_in (h 44 13) 6 ∧ vp_in (nI (5 * j) + 2) 60 ∧ vp_in (h 44 13) 6 ∧ vp_in (nI (5 * j) + 3) 60 ∧ vp_in (h 44 13) 6 ∧ vp_in (nI (5 * j) + 4) 60 ∧ vp_in (h 44 13) 6 ∧ KV (q_up (q_up (q_up (q_up (q_up (q_up h 49 (h 44 13).toNatClampNeg (nI w - 3)) 50 (h 44 13).toNatClampNeg (h 48 (5 * j + 1))) 51 (h 44 13).toNatClampNeg (h 48 (5 * j + 2))) 52 (h 44 13).toNatClampNeg (h 48 (5 * j + 3))) 53 (h 44 13).toNatClampNeg (h 48 (5 * j + 4))) 44 13 (h 44 13 + 1)) := by
    intro h3 h6
    obtain ⟨q1, q2, q3, q4, q5⟩ := k4 h3 h6
    obtain ⟨l4, l5, l6⟩ := l3 h3 h6
    have vn : vp_in (h 44 13) 6 := by rw [hM.1.2.2]; exact vp_in_nI q1 (by decide)
    refine ⟨v0', vn, vn, vj 2 (by decide), vn, vj 3 (by decide), vn, vj 4 (by decide), vn, ?_⟩
    rw [hM.1.2.2, ix_nI (by omega), l2 (by omega), l4, l5, l6, nI_1, show nI w - (3 : Int32) = nI (w - 3) from pk_sub (b := 3) (by omega)]
    refine kk _ ((((((OnlyM.upC (by decide) (by decide)).trans (OnlyM.upC (by decide) (by decide))).trans (OnlyM.upC (by decide) (by decide))).trans (OnlyM.upC (by decide) (by decide))).trans (OnlyM.upC (by decide) (by decide))).trans (OnlyM.upF (by decide))) ?_
    have ea : apl D (w, v0, v1, v2, v3) = (D.1, D.2.1 + 1, D.2.2.1, stf D.2.2.2.1 D.2.1 (w - 3), stf D.2.2.2.2.1 D.2.1 v0, stf D.2.2.2.2.2.1 D.2.1 v1, stf D.2.2.2.2.2.2.1 D.2.1 v2, stf D.2.2.2.2.2.2.2 D.2.1 v3) := by
      unfold apl
      rw [if_neg (by show ¬ w = 0; omega), if_neg (by show ¬ w = 7; omega), if_neg (by show ¬ w ≤ 2; omega)]
    rw [ea]
    refine ⟨⟨hM.1.1, hM.1.2.1, rfl⟩, fun i hi => ?_⟩
    have hi : i < D.2.1 + 1 := hi
    have up1 : ∀ (f : Nat → Int32) (F : Nat → Nat) (v : Nat), (∀ q, q < D.2.1 → f q = nI (F q)) → upd f D.2.1 (nI v) i = nI (stf F D.2.1 v i) := by
      intro f F v hf
      unfold upd stf
      split
      · rfl
      · exact hf i (by omega)
    exact ⟨up1 (h 49) _ _ (fun q hq => (hM.2 q hq).1), up1 (h 50) _ v0 (fun q hq => (hM.2 q hq).2.1), up1 (h 51) _ v1 (fun q hq => (hM.2 q hq).2.2.1), up1 (h 52) _ v2 (fun q hq => (hM.2 q hq).2.2.2.1), up1 (h 53) _ v3 (fun q hq => (hM.2 q hq).2.2.2.2)⟩
  have chair : (w = 1 ∨ w = 2) → KV (q_up h 44 7 (h 44 7 ^^^ 1 <<< (h 48 (5 * j + 1) &&& 31))) := by
    intro h12
    have hv := k3 h12
    have h2v : 2 ^ v0 < 2 ^ 12 := Nat.pow_lt_pow_right (by decide) (by omega)
    rw [hM.1.2.1, l2 (by omega), a_shl1 (by omega), a_xor (by omega) (by omega)]
    refine kk _ (OnlyM.upF (by decide)) ?_
    have ea : apl D (w, v0, v1, v2, v3) = (D.1, D.2.1, D.2.2.1 ^^^ 2 ^ v0, D.2.2.2) := by
      unfold apl
      rw [if_neg (by show ¬ w = 0; omega), if_neg (by show ¬ w = 7; omega), if_pos (by show w ≤ 2; omega)]
    rw [ea]
    exact ⟨⟨hM.1.1, rfl, hM.1.2.2⟩, hM.2⟩
  have cases8 : w = 0 ∨ w = 1 ∨ w = 2 ∨ w = 3 ∨ w = 4 ∨ w = 5 ∨ w = 6 ∨ w = 7 := by omega
  rcases cases8 with rfl | rfl | rfl | rfl | rfl | rfl | rfl | rfl
  · refine ⟨fun _ => ?_, fun z => absurd rfl z⟩
    rw [l2 (by decide)]
    exact kk _ (((OnlyM.upF (by decide)).trans (OnlyM.upF (by decide))).trans (OnlyM.upF (by decide))) ⟨⟨rfl, rfl, rfl⟩, fun k hk => absurd hk (Nat.not_lt_zero _)⟩
  · exact ⟨fun z => absurd z (by decide), fun _ => ⟨fun _ => chair (Or.inl rfl), fun z => absurd rfl z⟩⟩
  · exact ⟨fun z => absurd z (by decide), fun _ => ⟨fun z => absurd z (by decide), fun _ => ⟨fun _ => chair (Or.inr rfl), fun z => absurd rfl z⟩⟩⟩
  · exact ⟨fun z => absurd z (by decide), fun _ => ⟨fun z => absurd z (by decide), fun _ => ⟨fun z => absurd z (by decide), fun _ => ⟨fun _ => gst (by decide) (by decide), fun z => absurd rfl z⟩⟩⟩⟩
  · exact ⟨fun z => absurd z (by decide), fun _ => ⟨fun z => absurd z (by decide), fun _ => ⟨fun z => absurd z (by decide), fun _ => ⟨fun z => absurd z (by decide), fun _ => ⟨fun _ => gst (by decide) (by decide), fun z => absurd rfl z⟩⟩⟩⟩⟩
  · exact ⟨fun z => absurd z (by decide), fun _ => ⟨fun z => absurd z (by decide), fun _ => ⟨fun z => absurd z (by decide), fun _ => ⟨fun z => absurd z (by decide), fun _ => ⟨fun z => absurd z (by decide), fun _ => ⟨fun _ => gst (by decide) (by decide), fun z => absurd rfl z⟩⟩⟩⟩⟩⟩
  · exact ⟨fun z => absurd z (by decide), fun _ => ⟨fun z => absurd z (by decide), fun _ => ⟨fun z => absurd z (by decide), fun _ => ⟨fun z => absurd z (by decide), fun _ => ⟨fun z => absurd z (by decide), fun _ => ⟨fun z => absurd z (by decide), fun _ => ⟨fun _ => gst (by decide) (by decide), fun z => absurd rfl z⟩⟩⟩⟩⟩⟩⟩
  · refine ⟨fun z => absurd z (by decide), fun _ => ⟨fun z => absurd z (by decide), fun _ => ⟨fun z => absurd z (by decide), fun _ => ⟨fun z => absurd z (by decide), fun _ => ⟨fun z => absurd z (by decide), fun _ => ⟨fun z => absurd z (by decide), fun _ => ⟨fun z => absurd z (by decide), fun _ => ⟨fun _ => ?_, fun z => absurd rfl z⟩⟩⟩⟩⟩⟩⟩⟩
    exact kk _ (OnlyM.upF (by decide)) ⟨⟨hM.1.1, hM.1.2.1, rfl⟩, fun k hk => absurd hk (Nat.not_lt_zero _)⟩
theorem l_tells {len : Nat} {h0 : Hp} (hl : len ≤ 12) : ∀ (t : List Ln) (j : Nat) (D : Dt) (h : Hp), j + t.length = len → okls D t → dB D → (∀ i, i < t.length → LnR h (j + i) (t.getD i zl)) → MTd h D → h 44 5 = nI len → OnlyM mT [6, 7, 13] h0 h → (∀ h2 : Hp, OnlyM mT [6, 7, 13] h0 h2 → MTd h2 (t.foldl apl D) → FV g mX8_begin [.ref 44] h2 (fun h1 => K (h1 44 5) (q_up (q_up (q_up (q_up h1 44 30 0) 46 0 0) 46 1 0) 44 3 0))) → wX8_inn_13 g K h (nI j) := by
  intro t
  induction t with
  | nil =>
    intro j D h hj ok hB hL hM e5 ho kk
    have ej : j = len := by simpa using hj
    subst ej
    exact vX8_inn_13 ⟨fun _ => kk h ho hM, fun z => absurd (by rw [e5]; exact nI_le (Nat.le_refl _) (by omega)) z⟩
  | cons l t ih =>
    intro j D h hj ok hB hL hM e5 ho kk
    have hj : j + (t.length + 1) = len := hj
    refine vX8_inn_13 ⟨fun z => ?_, fun _ => ?_⟩
    · rw [e5, nI_leI (by omega) (by omega)] at z; omega
    · rw [show (5 : Int32) = nI 5 from rfl, nI_mul, nI_1]
      have hl0 : LnR h j l := hL 0 (Nat.succ_pos _)
      refine c_tell (by omega) hB ok.1 hl0 hM (fun h2 o2 hM2 => ?_)
      refine ih (j + 1) (apl D l) h2 (by omega) ok.2 (apl_B hB ok.1) (fun i hi => ?_) hM2 (by rw [o2.2 5 (by decide)]; exact e5) (ho.trans o2) kk
      have := hL (i + 1) (by show i + 1 < t.length + 1; omega)
      unfold LnR at this ⊢
      rw [o2.1 48 (by decide) (by decide), show j + 1 + i = j + (i + 1) by omega]
      exact this
end Fa
