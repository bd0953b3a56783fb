/-! stop -/
theorem SgI.frm {p n : Nat} {kd at_ : Nat → Nat} {W : Nat} : ∀ {k : Nat} {s t : Sg}, SgI (SgS p n kd at_ W) k s t → (∀ j, s.2.1 j = -1 ∨ ∃ q, q < p ∧ s.2.1 j = nI q) → ∀ j, t.2.1 j = -1 ∨ ∃ q, q < p ∧ t.2.1 j = nI q
  | 0, s, t, h, hs, j => by cases h; exact hs j
  | k + 1, s, t, ⟨u, ⟨g, q, hl, hK⟩, h⟩, hs, j => by
    refine SgI.frm h (fun i => ?_) j
    rw [hK.1]
    unfold upd
    split
    · exact Or.inr ⟨q, hl.1.2.1, rfl⟩
    · exact hs i
/-- all worth together -/
def swt (wt : Nat → Nat) : Nat → Nat
  | 0 => 0
  | i + 1 => swt wt i + wt i
theorem swt_le {wt : Nat → Nat} {n : Nat} (h : ∀ k, k < n → wt k ≤ 99) : ∀ i, i ≤ n → swt wt i ≤ 99 * i
  | 0, _ => Nat.le_refl _
  | i + 1, hi => by
    have := swt_le h i (by omega)
    have := h i (by omega)
    unfold swt
    omega
/-- what one pays -/
def shr (wt : Nat → Nat) (n S : Nat) : Int32 := if pcn S = 0 then 0 else nI (swt wt n) / nI (pcn S)
section St
variable {g : QG} {h : Hp} {K : Int32 → Hp → Prop} {KV : Hp → Prop}
theorem l_allWorth {n : Nat} {wt : Nat → Nat} (hn : n ≤ 6) (e : h 1 2 = nI n) (hw : ∀ k, k < n → h 6 k = nI (wt k)) (hK : K (nI (swt wt n)) h) : ∀ (d i : Nat), n - i = d → i ≤ n → wX6_allWorth_4 g K h (nI (swt wt i)) (nI i) := by
  intro d
  induction d with
  | zero =>
    intro i hd hi
    have e2 : i = n := by omega
    subst e2
    exact vX6_allWorth_4 ⟨fun _ => hK, fun hc => absurd (by rw [e]; exact nI_le (Nat.le_refl _) (by omega)) hc⟩
  | succ d ih =>
    intro i hd hi
    refine vX6_allWorth_4 ⟨fun hc => ?_, fun _ => ⟨vp_in_nI (by omega) (by decide), ?_⟩⟩
    · rw [e, nI_leI (by omega) (by omega)] at hc; omega
    · rw [ix_nI (by omega), hw i (by omega), nI_add, nI_1]
      exact ih (i + 1) (by omega) (by omega)
/-- the place of one who sits -/
def nat_ (F : Nat → Int32) (f : Nat → Nat) (k : Nat) : Int32 := if F k = -1 then nI (f k) else F k
theorem l_end {n S : Nat} {v : Int32} {F : Nat → Int32} {f : Nat → Nat} {h0 : Hp} (hn : n ≤ 6) (hS : S < 64) (e : h0 1 2 = nI n) (h28 : ∀ k, k < n → h0 28 k = F k) (h27 : ∀ k, k < n → h0 27 k = nI (f k)) (kk : ∀ h2 : Hp, Only [27, 30] h0 h2 → (∀ k, k < n → h2 27 k = nat_ F f k) → (∀ k, k < n → h2 30 k = if S.testBit k = true then h0 30 k + v else h0 30 k) → KV h2) : ∀ (d i : Nat) (h : Hp), n - i = d → i ≤ n → Only [27, 30] h0 h → (∀ k, k < i → h 27 k = nat_ F f k) → (∀ k, i ≤ k → h 27 k = h0 27 k) → (∀ k, k < i → h 30 k = if S.testBit k = true then h0 30 k + v else h0 30 k) → (∀ k, i ≤ k → h 30 k = h0 30 k) → wX0_end_67 g KV h (nI S) v (nI i) := by
  intro d
  induction d with
  | zero =>
    intro i h hd hi ho a1 a2 a3 a4
    have e2 : i = n := by omega
    subst e2
    exact vX0_end_67 ⟨fun _ => kk h ho a1 a3, fun hc => absurd (by rw [ho 1 (by decide), e]; exact nI_le (Nat.le_refl _) (by omega)) hc⟩
  | succ d ih =>
    intro i h hd hi ho a1 a2 a3 a4
    have hi6 : i < 6 := by omega
    have go : ∀ hx : Hp, Only [27, 30] h0 hx → (∀ k, k < i + 1 → hx 27 k = nat_ F f k) → (∀ k, i + 1 ≤ k → hx 27 k = h0 27 k) → hx 30 = h 30 → wX0_end_101 g KV hx (nI S) v (nI i) := by
      intro hx ox b1 b2 e30
      refine vX0_end_101 (c_holds (by omega) (by omega) (br_b (fun e1 => ?_) (fun e1 => ⟨vp_in_nI hi6 (by decide), vp_in_nI hi6 (by decide), ?_⟩)))
      · rw [nI_1]
        refine ih (i + 1) hx (by omega) (by omega) ox b1 b2 (fun k hk => ?_) (fun k hk => by rw [e30]; exact a4 k (by omega))
        rw [e30]
        by_cases ek : k = i
        · subst ek; rw [e1, a4 k (Nat.le_refl _)]; rfl
        · exact a3 k (by omega)
      · rw [ix_nI (by omega), nI_1, e30]
        refine ih (i + 1) _ (by omega) (by omega) (ox.trans (Only.up (by decide))) (fun k hk => by rw [up_cell _ _ _ _ (by decide)]; exact b1 k hk) (fun k hk => by rw [up_cell _ _ _ _ (by decide)]; exact b2 k hk) (fun k hk => ?_) (fun k hk => by rw [up_row _ _ _ _ (by omega), e30]; exact a4 k (by omega))
        by_cases ek : k = i
        · subst ek; rw [up_at, e1, a4 k (Nat.le_refl _)]; rfl
        · rw [up_row _ _ _ _ ek, e30]; exact a3 k (by omega)
    refine vX0_end_67 ⟨fun hc => ?_, fun _ => ⟨vp_in_nI hi6 (by decide), ?_⟩⟩
    · rw [ho 1 (by decide), e, nI_leI (by omega) (by omega)] at hc; omega
    · rw [ix_nI (by omega), ho 28 (by decide), h28 i (by omega)]
      refine ⟨fun hc => go h ho (fun k hk => ?_) (fun k hk => a2 k (by omega)) rfl, fun hc => ⟨vp_in_nI hi6 (by decide), vp_in_nI hi6 (by decide), go _ (ho.trans (Only.up (by decide))) (fun k hk => ?_) (fun k hk => by rw [up_row _ _ _ _ (by omega)]; exact a2 k (by omega)) (up_cell _ _ _ _ (by decide))⟩⟩
      · by_cases ek : k = i
        · subst ek
          unfold nat_
          rw [if_pos hc, a2 k (Nat.le_refl _), h27 k (by omega)]
        · exact a1 k (by omega)
      · by_cases ek : k = i
        · subst ek
          unfold nat_
          rw [if_neg hc, up_at]
        · rw [up_row _ _ _ _ ek]; exact a1 k (by omega)
theorem c_end {p n c S : Nat} {kd sg pc wy wt f : Nat → Nat} {F : Nat → Int32} (hT : TdR h p n c kd sg pc wy wt) (hS : S < 64) (h18 : ∀ k, k < 6 → h 18 k = F k) (h27 : ∀ k, k < n → h 27 k = nI (f k)) (kk : ∀ h2 : Hp, Only [26, 27, 28, 29, 30] h h2 → h2 26 = upd (upd (h 26) 1 0) 3 (nI S) → (∀ k, k < 6 → h2 28 k = F k) → (∀ q, q < 12 → h2 29 q = h 19 q) → (∀ k, k < n → h2 27 k = nat_ F f k) → (∀ k, k < n → h2 30 k = if S.testBit k = true then h 30 k + shr wt n S else h 30 k) → KV h2) : FV g mX0_end [.ref 26, .ref 1, .ref 16, .int (nI S)] h KV := by
  have hn := hT.1.2.2.1
  refine eX0_end (vX0_end_0 ?_)
  generalize hh : (q_upA (q_upA (q_up (q_up h 26 1 0) 26 3 (nI S)) 28 (va_cpy (h 18) (h 28) 0 0 6)) 29 (va_cpy (h 19) (h 29) 0 0 12)) = h1
  have o1 : Only [26, 28, 29] h h1 := by
    rw [← hh]
    exact (((Only.up (by decide)).trans (Only.up (by decide))).trans (Only.upA (by decide))).trans (Only.upA (by decide))
  have cc : ∀ (f f2 : Nat → Int32) (m j : Nat), j < m → va_cpy f f2 0 0 m j = f j := fun f f2 m j hj => by rw [pk_cpy_in (by omega) (by omega), Nat.zero_add, Nat.sub_zero]
  have x26 : h1 26 = upd (upd (h 26) 1 0) 3 (nI S) := by rw [← hh]; rfl
  have x28 : ∀ k, k < 6 → h1 28 k = F k := fun k hk => by rw [← hh, ← h18 k hk]; exact cc _ _ 6 k hk
  have x29 : ∀ q, q < 12 → h1 29 q = h 19 q := fun q hq => by rw [← hh]; exact cc _ _ 12 q hq
  clear hh
  have fin : ∀ v : Int32, v = shr wt n S → wX0_end_67 g KV h1 (nI S) v (nI 0) := by
    intro v hv
    subst hv
    refine l_end (g := g) (F := F) (f := f) hn hS (by rw [o1 1 (by decide)]; exact hT.2.1.2.2) (fun k hk => x28 k (by omega)) (fun k hk => by rw [o1 27 (by decide)]; exact h27 k hk) (fun h2 o2 v27 v30 => ?_) n 0 h1 rfl (Nat.zero_le _) (Only.rf _) (fun k hk => by omega) (fun _ _ => rfl) (fun k hk => by omega) (fun _ _ => rfl)
    refine kk h2 ((o1.weaken (by decide)).trans (o2.weaken (by decide))) (by rw [o2 26 (by decide)]; exact x26) (fun k hk => by rw [o2 28 (by decide)]; exact x28 k hk) (fun q hq => by rw [o2 29 (by decide)]; exact x29 q hq) v27 (fun k hk => ?_)
    rw [v30 k hk, o1 30 (by decide)]
  have hpc : pcn S ≤ 12 := pcN_le S 12
  refine c_bitCount (by omega) ⟨fun hc => ?_, fun hc => fin _ ?_⟩
  · rw [show (0 : Int32) = nI 0 from rfl, nI_eq (by omega) (by decide)] at hc
    refine eX6_allWorth (vX6_allWorth_0 (l_allWorth (g := g) (wt := wt) hn (by rw [o1 1 (by decide)]; exact hT.2.1.2.2) (fun k hk => by rw [o1 6 (by decide)]; exact (hT.2.2.2 k hk).2.2.2.2.1) ⟨nI_ne0 (by omega) (by omega), fin _ ?_⟩ n 0 rfl (Nat.zero_le _)))
    unfold shr
    rw [if_neg hc]
  · rw [show (0 : Int32) = nI 0 from rfl, nI_eq (by omega) (by decide)] at hc
    unfold shr
    rw [if_pos hc]
/-- the reference's last loop -/
theorem l_mstop69 {n S : Nat} {wt : Nat → Nat} {F G : Nat → Int32} {f : Nat → Nat} {h0 : Hp} (hn : n ≤ 6) (hS : S < 64) (e : h0 44 13 = nI n) (h55 : ∀ k, k < 6 → h0 55 k = F k) (h56 : ∀ k, k < 6 → h0 56 k = G k) (h45 : ∀ k, k < n → h0 45 (3 + k) = nI (f k))
    (kk : ∀ h2 : Hp, OnlyM [45] [] h0 h2 → (∀ k, k < n → h2 45 (3 + k) = nat_ F f k ∧ h2 45 (9 + k) = F k ∧ h2 45 (15 + k) = G k ∧ h2 45 (21 + k) = if S.testBit k = true then h0 45 (21 + k) + shr wt n S else h0 45 (21 + k)) → (∀ j, (j = 0 ∨ 27 ≤ j) → h2 45 j = h0 45 j) → h2 45 1 = 1 → h2 45 2 = nI S → K (nI S) h2) : ∀ (d i : Nat) (h : Hp), n - i = d → i ≤ n → OnlyM [45] [] h0 h → (∀ k, k < i → h 45 (3 + k) = nat_ F f k ∧ h 45 (9 + k) = F k ∧ h 45 (15 + k) = G k ∧ h 45 (21 + k) = if S.testBit k = true then h0 45 (21 + k) + shr wt n S else h0 45 (21 + k)) → (∀ k, i ≤ k → k < n → h 45 (3 + k) = h0 45 (3 + k) ∧ h 45 (21 + k) = h0 45 (21 + k)) → (∀ j, (j < 3 ∨ 27 ≤ j) → h 45 j = h0 45 j) → wX8_stop_69 g K h (nI (swt wt n)) (nI S) (nI i) := by
  intro d
  induction d with
  | zero =>
    intro i h hd hi ho a1 a2 a3
    have e2 : i = n := by omega
    subst e2
    refine vX8_stop_69 ⟨fun _ => ?_, fun hc => absurd (by rw [ho.2 13 (by decide), e]; exact nI_le (Nat.le_refl _) (by omega)) hc⟩
    refine kk _ ((ho.trans (OnlyM.upC (by decide) (by decide))).trans (OnlyM.upC (by decide) (by decide))) (fun k hk => ?_) (fun j hj => ?_) ?_ (up_at _ _ _ _)
    · rw [up_row _ _ _ _ (by omega), up_row _ _ _ _ (by omega), up_row _ _ _ _ (by omega), up_row _ _ _ _ (by omega), up_row _ _ _ _ (by omega), up_row _ _ _ _ (by omega), up_row _ _ _ _ (by omega), up_row _ _ _ _ (by omega)]
      exact a1 k hk
    · rw [up_row _ _ _ _ (by omega), up_row _ _ _ _ (by omega)]; exact a3 j (by omega)
    · rw [up_row _ _ _ _ (by decide)]; exact up_at _ _ _ _
  | succ d ih =>
    intro i h hd hi ho a1 a2 a3
    have i3 : (3 : Int32) + nI i = nI (3 + i) := nI_add 3 i
    have i9 : (9 : Int32) + nI i = nI (9 + i) := nI_add 9 i
    have i15 : (15 : Int32) + nI i = nI (15 + i) := nI_add 15 i
    have i21 : (21 : Int32) + nI i = nI (21 + i) := nI_add 21 i
    have hi6 : i < 6 := by omega
    have e55 : h 55 i = F i := by rw [ho.1 55 (by decide) (by decide)]; exact h55 i hi6
    have e56 : h 56 i = G i := by rw [ho.1 56 (by decide) (by decide)]; exact h56 i hi6
    have hpc : pcn S ≤ 12 := pcN_le S 12
    -- the heap with seats told
    have fin : ∀ (v : Int32) (hx : Hp), v = nat_ F f i → hx = q_up (q_up h 45 (9 + i) (F i)) 45 (15 + i) (G i) → wX8_stop_141 g K hx (nI (swt wt n)) (nI S) (nI i) (nI (3 + i)) v := by
      intro v hx hv hhx
      have r : ∀ j, j ≠ 3 + i → j ≠ 9 + i → j ≠ 15 + i → (q_up hx 45 (3 + i) v) 45 j = h 45 j := fun j j1 j2 j3 => by
        rw [up_row _ _ _ _ j1, hhx, up_row _ _ _ _ j3, up_row _ _ _ _ j2]
      have r3 : (q_up hx 45 (3 + i) v) 45 (3 + i) = v := up_at _ _ _ _
      have r9 : (q_up hx 45 (3 + i) v) 45 (9 + i) = F i := by rw [up_row _ _ _ _ (by omega), hhx, up_row _ _ _ _ (by omega), up_at]
      have r15 : (q_up hx 45 (3 + i) v) 45 (15 + i) = G i := by rw [up_row _ _ _ _ (by omega), hhx, up_at]
      have ox : OnlyM [45] [] h0 (q_up hx 45 (3 + i) v) := by
        rw [hhx]
        exact ((ho.trans (OnlyM.upC (by decide) (by decide))).trans (OnlyM.upC (by decide) (by decide))).trans (OnlyM.upC (by decide) (by decide))
      generalize hy : q_up hx 45 (3 + i) v = y at r r3 r9 r15 ox
      have last : ∀ z : Int32, (z = if S.testBit i = true then h0 45 (21 + i) + shr wt n S else h0 45 (21 + i)) → wX8_stop_69 g K (q_up y 45 (21 + i) z) (nI (swt wt n)) (nI S) (nI i + 1) := by
        intro z hz
        rw [nI_1]
        refine ih (i + 1) _ (by omega) (by omega) (ox.trans (OnlyM.upC (by decide) (by decide))) (fun k hk => ?_) (fun k hk1 hk2 => ?_) (fun j hj => ?_)
        · by_cases ek : k = i
          · subst ek
            rw [up_at, up_row _ _ _ _ (by omega), up_row _ _ _ _ (by omega), up_row _ _ _ _ (by omega), r3, r9, r15]
            exact ⟨hv, rfl, rfl, hz⟩
          · rw [up_row _ _ _ _ (by omega), up_row _ _ _ _ (by omega), up_row _ _ _ _ (by omega), up_row _ _ _ _ (by omega), r _ (by omega) (by omega) (by omega), r _ (by omega) (by omega) (by omega), r _ (by omega) (by omega) (by omega), r _ (by omega) (by omega) (by omega)]
            exact a1 k (by omega)
        · rw [up_row _ _ _ _ (by omega), up_row _ _ _ _ (by omega), r _ (by omega) (by omega) (by omega), r _ (by omega) (by omega) (by omega)]
          exact a2 k (by omega) hk2
        · rw [up_row _ _ _ _ (by omega), r _ (by omega) (by omega) (by omega)]; exact a3 j hj
      refine vX8_stop_141 ⟨vp_in_nI (by omega) (by decide), by rw [i21]; exact vp_in_nI (by omega) (by decide), ?_⟩
      rw [ix_nI (by omega), i21, ix_nI (by omega), hy, r (21 + i) (by omega) (by omega) (by omega), (a2 i (Nat.le_refl _) (by omega)).2]
      refine c_has (by omega) (by omega) (br_b (fun e1 => ⟨vp_in_nI (by omega) (by decide), last _ ?_⟩) (fun e1 => ?_))
      · rw [e1, if_neg (by decide), Int32.add_zero]
      · have hp := pcN_pos S 12 i (by omega) e1
        refine c_bits (by omega) ⟨nI_ne0 (by omega) (by omega), vp_in_nI (by omega) (by decide), last _ ?_⟩
        rw [e1, if_pos rfl]
        unfold shr
        rw [if_neg (show ¬ pcn S = 0 from Nat.pos_iff_ne_zero.mp hp)]
    refine vX8_stop_69 ⟨fun hc => ?_, fun _ => ?_⟩
    · rw [ho.2 13 (by decide), e, nI_leI (by omega) (by omega)] at hc; omega
    · rw [i3, i9, i15, ix_nI (by omega), ix_nI (by omega), ix_nI (by omega), ix_nI (by omega), e55, e56]
      refine ⟨vp_in_nI hi6 (by decide), vp_in_nI (by omega) (by decide), vp_in_nI hi6 (by decide), vp_in_nI (by omega) (by decide), vp_in_nI hi6 (by decide), fun hc => ⟨vp_in_nI hi6 (by decide), fin _ _ ?_ rfl⟩, fun hc => ⟨vp_in_nI (by omega) (by decide), fin _ _ ?_ rfl⟩⟩
      · unfold nat_; rw [if_neg hc]
      · unfold nat_
        rw [if_pos hc, up_row _ _ _ _ (by omega), up_row _ _ _ _ (by omega), (a2 i (Nat.le_refl _) (by omega)).1]
        exact h45 i (by omega)
theorem l_mstop17 {n : Nat} {wt f : Nat → Nat} {h0 : Hp} (hn : n ≤ 6) (e : h0 44 13 = nI n) (h53 : ∀ k, k < n → h0 53 k = nI (wt k)) (h45 : ∀ k, k < n → h0 45 (3 + k) = nI (f k)) (kk : ∀ h2 : Hp, OnlyM [54] [] h0 h2 → (∀ k, k < n → h2 54 k = nI (f k)) → wX8_stop_17 g K h2 (nI (swt wt n)) (nI n)) : ∀ (d i : Nat) (h : Hp), n - i = d → i ≤ n → OnlyM [54] [] h0 h → (∀ k, k < i → h 54 k = nI (f k)) → wX8_stop_17 g K h (nI (swt wt i)) (nI i) := by
  intro d
  induction d with
  | zero =>
    intro i h hd hi ho a1
    have e2 : i = n := by omega
    subst e2
    exact kk h ho a1
  | succ d ih =>
    intro i h hd hi ho a1
    have i3 : (3 : Int32) + nI i = nI (3 + i) := nI_add 3 i
    refine vX8_stop_17 ⟨fun hc => ?_, fun _ => ?_⟩
    · rw [ho.2 13 (by decide), e, nI_leI (by omega) (by omega)] at hc; omega
    · rw [i3, ix_nI (by omega), ix_nI (by omega), ho.1 45 (by decide) (by decide), ho.1 53 (by decide) (by decide), h45 i (by omega), h53 i (by omega), nI_add, nI_1]
      refine ⟨vp_in_nI (by omega) (by decide), vp_in_nI (by omega) (by decide), vp_in_nI (by omega) (by decide), ih (i + 1) _ (by omega) (by omega) (ho.trans (OnlyM.upC (by decide) (by decide))) (fun k hk => ?_)⟩
      by_cases ek : k = i
      · subst ek; exact up_at _ _ _ _
      · rw [up_row _ _ _ _ ek]; exact a1 k (by omega)
theorem op_stop (hS : Sim h) : FI g mX7_stop [.ref 0] h (fun r h1 => FI g mX8_stop [.ref 44] h1 (fun r2 h2 => r = r2 ∧ Sim h2)) := by
  obtain ⟨p, n, c, kd, sg, pc, wy, wt, hT, hX, hE, hK1, hK2, hN⟩ := (Sim.iff h).mp hS
  have hn := hT.1.2.2.1
  have hp := hT.1.2.1
  obtain ⟨f, hf⟩ := hE.ats
  obtain ⟨⟨t, t0, t1, t2⟩, ⟨b, b1, b2⟩, s1, hq, ho⟩ := hE
  have b2 : h 45 1 = bi (!b) := b2
  refine eX7_stop (vX7_stop_0 ⟨fun he => ?_, fun he => ?_⟩)
  · rw [b1, bin0] at he
    subst he
    generalize hh : q_upA h 17 (va_cpy (h 27) (h 17) 0 0 6) = h1
    have o1 : Only [17] h h1 := by rw [← hh]; exact Only.upA (by decide)
    have x17 : ∀ k, k < n → h1 17 k = nI (f k) := fun k hk => by
      rw [← hh, q_upA_at, pk_cpy_in (by omega) (by omega), Nat.zero_add, Nat.sub_zero]; exact (hf k hk).2.1
    clear hh
    have hT1 := hT.xo o1 (by decide)
    have hXT1 : XT h1 p n kd f := ⟨hp, hn, by have := hT.1.1; omega, hT1.2.1.1, hT1.2.1.2.2, fun k hk => ⟨(hT1.2.2.2 k hk).1.1, (hT1.2.2.2 k hk).1.2.2, x17 k hk, (hf k hk).1⟩⟩
    refine c_everyone hn hT1.2.1.2.2 ?_
    rw [hT1.2.1.2.1]
    refine c_settle hXT1 hT.all hT.c4 (fun h2 S u o2 xs2 hD hSt hS64 => ?_)
    have hT2 := hT1.xo o2 (by decide)
    refine c_everyone hn hT2.2.1.2.2 ?_
    refine c_settleFaint (hXT1.keep o2 (by decide)) xs2 hT.all hD (fun h3 u2 o3 xs3 hD2 => ?_)
    have o13 : Only [16, 17, 18, 19] h h3 := ((o1.weaken (by decide)).trans (o2.weaken (by decide))).trans (o3.weaken (by decide))
    have hT3 := hT.xo o13 (by decide)
    refine c_end (F := u2.2.1) (f := f) hT3 hS64 xs3.2.2.1 (fun k hk => by rw [o13 27 (by decide)]; exact (hf k hk).2.1) (fun h4 o4 y26 y28 y29 y27 y30 => ?_)
    have o14 : Only [16, 17, 18, 19, 26, 27, 28, 29, 30] h h4 := (o13.weaken (by decide)).trans (o4.weaken (by decide))
    have e45 : h4 45 = h 45 := o14 45 (by decide)
    have e44 : h4 44 = h 44 := o14 44 (by decide)
    have hSS : S = SS p n kd f c (2 ^ n - 1) := StR.ss ⟨fset kd 2 n, u, fset_fnt n kd, hD, hSt⟩
    have h2n : 2 ^ n - 1 < 64 := p64 hn hT.all
    refine eX8_stop (vX8_stop_0 ⟨fun _ => ?_, fun z => by rw [e45, b2] at z; exact absurd z (by decide)⟩)
    refine l_mstop17 (g := g) (wt := wt) (f := f) hn (by rw [e44]; exact hT.2.2.1.2.2) (fun k hk => by rw [o14 53 (by decide)]; exact (hT.2.2.2 k hk).2.2.2.2.2.1) (fun k hk => by rw [e45, ← (hf k hk).2.2, Nat.zero_add]) (fun h5 o5 z54 => ?_) n 0 h4 rfl (Nat.zero_le _) (OnlyM.rf _) (fun k hk => by omega)
    have e44' : ∀ j, h5 44 j = h 44 j := fun j => by rw [o5.2 j (by simp), e44]
    refine vX8_stop_17 ⟨fun _ => ?_, fun hc => absurd (by rw [e44', hT.2.2.1.2.2]; exact nI_le (Nat.le_refl _) (by omega)) hc⟩
    refine c_everybody hn (by rw [e44']; exact hT.2.2.1.2.2) ?_
    rw [e44' 7, hT.2.2.1.2.1]
    have hMT : MT h5 p n kd f := ⟨hp, hn, by have := hT.1.1; omega, by rw [e44']; exact hT.2.2.1.1, by rw [e44']; exact hT.2.2.1.2.2, fun k hk => ⟨by rw [o5.1 49 (by decide) (by decide), o14 49 (by decide)]; exact (hT.2.2.2 k hk).1.2.1, (hT.2.2.2 k hk).1.2.2, z54 k hk, (hf k hk).1⟩⟩
    refine c_stops hMT h2n hT.c4 (fun h6 S2 v v2 o6 gD gD2 gMS gSt gS => ?_)
    have ev : v = u := gD.uniq hD
    subst ev
    have ev2 : v2 = u2 := gD2.uniq hD2
    subst ev2
    have eS : S2 = S := by
      rw [hSS]
      exact StR.ss ⟨fset kd 2 n, v, fset_fnt n kd, hD, gSt.back hD2⟩
    subst eS
    have e456 : h6 45 = h 45 := by rw [o6.1 45 (by decide) (by decide), o5.1 45 (by decide) (by decide), e45]
    refine l_mstop69 (g := g) (wt := wt) (F := v2.2.1) (G := v2.2.2) (f := f) (h0 := h6) hn hS64 (by rw [o6.2 13 (by decide), e44']; exact hT.2.2.1.2.2) gMS.2.2.1 gMS.2.2.2 (fun k hk => by rw [e456, ← (hf k hk).2.2, Nat.zero_add]) (fun h7 o7 w1 w2 w3 w4 => ⟨rfl, ?_⟩) n 0 h6 rfl (Nat.zero_le _) (OnlyM.rf _) (fun k hk => by omega) (fun k _ _ => ⟨rfl, rfl⟩) (fun j _ => rfl)
    have frm : ∀ j, v2.2.1 j = -1 ∨ ∃ q, q < p ∧ v2.2.1 j = nI q := by
      obtain ⟨⟨k1, I1⟩, -⟩ := hD
      obtain ⟨⟨k2, I2⟩, -⟩ := hD2
      exact SgI.frm I2 (SgI.frm I1 (fun j => Or.inl rfl))
    have keep : ∀ k, k ∉ [45, 54, 55, 56, 44] → h7 k = h4 k := fun k hk => by
      have hk2 : k ∉ [45] ∧ k ∉ [54] ∧ k ∉ [55, 56] ∧ k ≠ 44 := by
        simp only [List.mem_cons, List.not_mem_nil, or_false, not_or] at hk ⊢
        omega
      rw [o7.1 k hk2.1 hk2.2.2.2, o6.1 k hk2.2.2.1 hk2.2.2.2, o5.1 k hk2.2.1 hk2.2.2.2]
    refine Sim.ev hT hX hK1 hK2 hN (fun k hk => ?_) (fun j hj => ?_) (fun j hj => ?_) ?_
    · have hk2 : k ∉ [45, 54, 55, 56, 44] ∧ k ∉ [16, 17, 18, 19, 26, 27, 28, 29, 30] := by
        simp only [evX, List.mem_cons, List.not_mem_nil, or_false, not_or] at hk ⊢
        omega
      rw [keep k hk2.1, o14 k hk2.2]
    · rw [o7.2 j (by simp), o6.2 j (by simp only [scJ, List.mem_cons, List.not_mem_nil, or_false, not_or] at hj ⊢; omega), e44']
    · rw [w2 j (by omega), e456]
    · refine ⟨⟨t, t0, ?_, ?_⟩, ⟨false, ?_, w3⟩, ?_, fun k hk => ⟨?_, ?_, ?_⟩, fun q hq2 => ?_⟩
      · rw [keep 26 (by decide), y26]
        show h3 26 0 = _
        rw [o13 26 (by decide)]; exact t1
      · rw [w2 0 (by decide), e456]; exact t2
      · rw [keep 26 (by decide), y26]; rfl
      · rw [keep 26 (by decide), y26, w4]; rfl
      · rw [keep 27 (by decide), y27 k hk, Nat.zero_add, (w1 k hk).1]
        unfold nat_
        split
        · exact ⟨f k, (hf k hk).1, rfl, rfl⟩
        · rename_i hne
          rcases frm k with z | ⟨q, z1, z2⟩
          · exact absurd z hne
          · exact ⟨q, z1, z2, z2⟩
      · rw [keep 28 (by decide), y28 k (by omega), Nat.zero_add, (w1 k hk).2.1]
      · rw [keep 30 (by decide), y30 k hk, Nat.zero_add, (w1 k hk).2.2.2, e456, o13 30 (by decide)]
        have := (hq k hk).2.2
        rw [Nat.zero_add] at this
        rw [show h 30 k = _ from this]
      · rw [keep 29 (by decide), y29 q (by omega)]
        obtain ⟨g1, g2, -⟩ := xs3.2.2.2.2.1 q (by omega)
        refine ⟨fun k hk hh => g1 k hk ?_, ?_⟩
        · rw [Nat.zero_add, Nat.zero_add, (w1 k hk).2.1, (w1 k hk).2.2.1] at hh; exact hh
        · rcases g2 with z | ⟨k, hk, z1, z2⟩
          · exact Or.inl z
          · refine Or.inr ⟨k, hk, z1, ?_⟩
            rw [Nat.zero_add, Nat.zero_add, (w1 k hk).2.1, (w1 k hk).2.2.1]; exact z2
  · rw [b1, bi0] at he
    subst he
    exact eX8_stop (vX8_stop_0 ⟨fun z => absurd (by rw [b2]; rfl) z, fun _ => ⟨rfl, hS⟩⟩)
end St
