/-! surest -/
/-- the first of the least -/
def BM (T : Nat → Nat) (i v : Nat) : Prop := v < i ∧ ∀ w, w < i → T v < T w ∨ (T v = T w ∧ v ≤ w)
theorem BM.uniq {T : Nat → Nat} {i v v2 : Nat} (a : BM T i v) (b : BM T i v2) : v = v2 := by
  have := a.2 v2 b.1
  have := b.2 v a.1
  omega
theorem BM.keep {T : Nat → Nat} {i v : Nat} (a : BM T i v) (h : T v ≤ T i) : BM T (i + 1) v := by
  refine ⟨by have := a.1; omega, fun w hw => ?_⟩
  by_cases e : w = i
  · subst e; have := a.1; omega
  · exact a.2 w (by omega)
theorem BM.new {T : Nat → Nat} {i v : Nat} (a : BM T i v) (h : T i < T v) : BM T (i + 1) i := by
  refine ⟨by omega, fun w hw => ?_⟩
  by_cases e : w = i
  · subst e; omega
  · have := a.2 w (by omega); omega
theorem BM.one (T : Nat → Nat) : BM T 1 0 := ⟨by omega, fun w hw => by rw [show w = 0 by omega]; omega⟩
def stf (f : Nat → Nat) (k v : Nat) : Nat → Nat := fun i => if i = k then v else f i
section Su
variable {g : QG} {h : Hp} {K : Int32 → Hp → Prop} {KV : Hp → Prop}
/-- how often k stands by pace v / 2, way v % 2 -/
noncomputable abbrev tS (p n : Nat) (kd sg pc wy : Nat → Nat) (c k a m : Nat) : Nat → Nat := fun v => tal (sT p n kd sg (stf pc k (v / 2)) (stf wy k (v % 2)) c (2 ^ n - 1)) k a m
theorem stf_stf (f : Nat → Nat) (k v w : Nat) : stf (stf f k v) k w = stf f k w := by
  funext i
  unfold stf
  split <;> rfl
theorem l_msure {p n c k a b : Nat} {q : Int32} {kd sg pc wy : Nat → Nat} {h0 : Hp} (hk : k < n) (hn : n ≤ 6) (hab : a ≤ b) (hb : b ≤ 99) (hc : c < 4096) (hM0 : MDt h0 p n kd sg pc wy) (e70 : h0 44 7 = nI c)
    (kk : ∀ (h2 : Hp) (v : Nat), OnlyM [54, 55, 56] [23, 24, 25] h0 h2 → BM (tS p n kd sg pc wy c k a (b + 1 - a)) 8 v → (¬ q = 0 → (¬ q = 1 → K (nI (tS p n kd sg pc wy c k a (b + 1 - a) v)) h2) ∧ (q = 1 → K (nI (v % 2)) h2)) ∧ (q = 0 → K (nI (v / 2)) h2)) : ∀ (d i : Nat) (h : Hp) (a7 a8 : Int32), 8 - i = d → i ≤ 8 → OnlyM [51, 52, 54, 55, 56] [23, 24, 25] h0 h → (∀ j, j ≠ k → h 51 j = h0 51 j ∧ h 52 j = h0 52 j) → ((i = 0 ∧ a7 = -1 ∧ a8 = nI 999) ∨ ∃ v, BM (tS p n kd sg pc wy c k a (b + 1 - a)) i v ∧ a7 = nI v ∧ a8 = nI (tS p n kd sg pc wy c k a (b + 1 - a) v)) → wX8_surest_62 g K h (nI k) (nI a) (nI b) q (h0 51 k) (h0 52 k) a7 a8 (nI i) := by
  have tle : ∀ v, tS p n kd sg pc wy c k a (b + 1 - a) v ≤ b + 1 - a := fun v => tal_le _ _ _ _
  intro d
  induction d with
  | zero =>
    intro i h a7 a8 hd hi ho hj hs
    have e : i = 8 := by omega
    subst e
    rcases hs with ⟨z, -⟩ | ⟨v, hv, e7, e8⟩
    · omega
    · refine vX8_surest_62 ⟨fun _ => ⟨vp_in_nI (by omega) (by decide), vp_in_nI (by omega) (by decide), ?_⟩, fun hx => absurd (nI_le (a := 8) (Nat.le_refl _) (by decide)) hx⟩
      have hv8 := hv.1
      rw [ix_nI (by omega), e7, e8, show (2 : Int32) = nI 2 from rfl, pk_div (by omega) (by decide) (by decide), ← pk_div (a := v) (d := 2) (by omega) (by decide) (by decide), pk_rem (by omega) (by decide) (by decide), pk_div (by omega) (by decide) (by decide)]
      refine kk _ v ⟨fun r hr h4 => ?_, fun j hj2 => ?_⟩ hv
      · by_cases e52 : r = 52
        · subst e52
          rw [q_up_at]
          funext j
          unfold upd
          split
          · rename_i e; rw [e]
          · rename_i e; rw [up_cell _ _ _ _ (by decide)]; exact (hj j e).2
        · rw [q_up_ne e52]
          by_cases e51 : r = 51
          · subst e51
            rw [q_up_at]
            funext j
            unfold upd
            split
            · rename_i e; rw [e]
            · rename_i e; exact (hj j e).1
          · rw [q_up_ne e51]
            refine ho.1 r ?_ h4
            simp only [List.mem_cons, List.not_mem_nil, or_false, not_or] at hr ⊢
            omega
      · rw [up_cell _ _ _ _ (by decide), up_cell _ _ _ _ (by decide)]; exact ho.2 j hj2
  | succ d ih =>
    intro i h a7 a8 hd hi ho hj hs
    refine vX8_surest_62 ⟨fun hx => ?_, fun _ => ⟨vp_in_nI (by omega) (by decide), vp_in_nI (by omega) (by decide), ?_⟩⟩
    · rw [show (8 : Int32) = nI 8 from rfl, nI_leI (by decide) (by omega)] at hx; omega
    · rw [ix_nI (by omega), show (2 : Int32) = nI 2 from rfl, pk_rem (by omega) (by decide) (by decide), pk_div (by omega) (by decide) (by decide)]
      have hM : MDt (q_up (q_up h 51 k (nI (i / 2))) 52 k (nI (i % 2))) p n kd sg (stf pc k (i / 2)) (stf wy k (i % 2)) := by
        obtain ⟨a1, a2, a3, a4, a5, a6⟩ := hM0
        refine ⟨a1, a2, a3, by rw [up_cell _ _ _ _ (by decide), up_cell _ _ _ _ (by decide), ho.2 6 (by decide)]; exact a4, by rw [up_cell _ _ _ _ (by decide), up_cell _ _ _ _ (by decide), ho.2 13 (by decide)]; exact a5, fun j hjn => ?_⟩
        obtain ⟨k1, k2, k3, k4, w1, w2, w3, w4⟩ := a6 j hjn
        rw [up_cell _ _ _ _ (by decide), up_cell _ _ _ _ (by decide), up_cell _ _ _ _ (by decide), up_cell _ _ _ _ (by decide), up_cell _ _ _ _ (by decide), ho.1 49 (by decide) (by decide), ho.1 50 (by decide) (by decide)]
        by_cases e : j = k
        · subst e
          rw [up_at, up_at]
          unfold stf
          rw [if_pos rfl, if_pos rfl]
          exact ⟨k1, k2, k3, k4, rfl, by omega, rfl, by omega⟩
        · rw [up_row _ _ _ _ e, up_row _ _ _ _ e, up_cell _ _ _ _ (by decide), (hj j e).1, (hj j e).2]
          unfold stf
          rw [if_neg e, if_neg e]
          exact ⟨k1, k2, k3, k4, w1, w2, w3, w4⟩
      refine c_minutesOf hk hab hb hc hM (by rw [up_cell _ _ _ _ (by decide), up_cell _ _ _ _ (by decide), ho.2 7 (by decide)]; exact e70) (fun h2 o2 => ?_)
      have o02 : OnlyM [51, 52, 54, 55, 56] [23, 24, 25] h0 h2 := ((ho.trans (OnlyM.upC (by decide) (by decide))).trans (OnlyM.upC (by decide) (by decide))).trans (o2.weaken (by decide) (by decide))
      have hj2 : ∀ j, j ≠ k → h2 51 j = h0 51 j ∧ h2 52 j = h0 52 j := fun j e => by
        rw [o2.1 51 (by decide) (by decide), o2.1 52 (by decide) (by decide), up_cell _ _ _ _ (by decide), up_row _ _ _ _ e, up_row _ _ _ _ e, up_cell _ _ _ _ (by decide)]
        exact hj j e
      have ti := tle i
      have go112 : ∀ s : Int32, (a8 ≤ nI (tS p n kd sg pc wy c k a (b + 1 - a) i) → s = a7) → (¬ a8 ≤ nI (tS p n kd sg pc wy c k a (b + 1 - a) i) → s = nI i) → wX8_surest_112 g K h2 (nI k) (nI a) (nI b) q (h0 51 k) (h0 52 k) a8 (nI i) (nI (tS p n kd sg pc wy c k a (b + 1 - a) i)) s := by
        intro s s1 s2
        rcases hs with ⟨z1, z2, z3⟩ | ⟨v, hv, e7, e8⟩
        · subst z1
          have hlt : ¬ a8 ≤ nI (tS p n kd sg pc wy c k a (b + 1 - a) 0) := by rw [z3, nI_leI (by decide) (by omega)]; omega
          refine vX8_surest_112 ⟨fun hx => absurd hx hlt, fun hx => ?_⟩
          rw [s2 hx, nI_1]
          exact ih 1 h2 _ _ (by omega) (by omega) o02 hj2 (Or.inr ⟨0, BM.one _, rfl, rfl⟩)
        · have tv := tle v
          have hiff : a8 ≤ nI (tS p n kd sg pc wy c k a (b + 1 - a) i) ↔ tS p n kd sg pc wy c k a (b + 1 - a) v ≤ tS p n kd sg pc wy c k a (b + 1 - a) i := by rw [e8]; exact nI_leI (by omega) (by omega)
          refine vX8_surest_112 ⟨fun hx => ?_, fun hx => ?_⟩
          · rw [s1 hx, nI_1]
            exact ih (i + 1) h2 _ _ (by omega) (by omega) o02 hj2 (Or.inr ⟨v, hv.keep (hiff.mp hx), e7, e8⟩)
          · rw [s2 hx, nI_1]
            exact ih (i + 1) h2 _ _ (by omega) (by omega) o02 hj2 (Or.inr ⟨i, hv.new (Nat.not_le.mp (fun z => hx (hiff.mpr z))), rfl, rfl⟩)
      exact ⟨fun hx => go112 _ (fun _ => rfl) (fun z => absurd hx z), fun hx => go112 _ (fun z => absurd z hx) (fun _ => rfl)⟩
/-- the class's search -/
def XF (h : Hp) (T : Nat → Nat) (i : Nat) : Prop := (i = 0 ∧ h 24 3 = nI 101) ∨ ∃ v, BM T i v ∧ h 24 3 = nI (T v) ∧ h 24 5 = nI (v / 2) ∧ h 24 6 = nI (v % 2)
theorem l_xsure {p n c k a b : Nat} {kd sg pc wy wt : Nat → Nat} {h0 : Hp} (hk : k < n) (hab : a ≤ b) (hb : b ≤ 99) (hT0 : TdR h0 p n c kd sg pc wy wt) (kk : ∀ (h2 : Hp), Only scX h0 h2 → XF h2 (tS p n kd sg pc wy c k a (b + 1 - a)) 8 → KV h2) : ∀ (d i : Nat) (h : Hp), 8 - i = d → i ≤ 8 → Only scX h0 h → (∀ j, j < n → j ≠ k → h 21 j = nI (pc j) ∧ h 22 j = nI (wy j)) → h 20 5 = nI (2 ^ n - 1) → h 20 6 = nI c → XF h (tS p n kd sg pc wy c k a (b + 1 - a)) i → (i % 2 = 0 → wX1_findSurest_16 g KV h (nI k) (nI a) (nI b) (nI (i / 2))) ∧ (i < 8 → wX1_findSurest_25 g KV h (nI k) (nI a) (nI b) (nI (i / 2)) (nI (i % 2))) ∧ (i % 2 = 0 → 0 < i → wX1_findSurest_25 g KV h (nI k) (nI a) (nI b) (nI (i / 2 - 1)) (nI 2)) := by
  have tle : ∀ v, tS p n kd sg pc wy c k a (b + 1 - a) v ≤ b + 1 - a := fun v => tal_le _ _ _ _
  have hn := hT0.1.2.2.1
  -- the end of a row of ways
  have rowEnd : ∀ (i : Nat) (h : Hp), 0 < i → i ≤ 8 → wX1_findSurest_16 g KV h (nI k) (nI a) (nI b) (nI (i / 2)) → 0 < i / 2 → wX1_findSurest_25 g KV h (nI k) (nI a) (nI b) (nI (i / 2 - 1)) (nI 2) := by
    intro i h h0 h8 hw hi2
    refine vX1_findSurest_25 ⟨fun _ => ?_, fun hx => absurd (by decide) hx⟩
    rw [nI_1, show i / 2 - 1 + 1 = i / 2 by omega]
    exact hw
  intro d
  induction d with
  | zero =>
    intro i h hd hi ho hj e5 e6 hs
    have e : i = 8 := by omega
    subst e
    have h16 : wX1_findSurest_16 g KV h (nI k) (nI a) (nI b) (nI (8 / 2)) := vX1_findSurest_16 ⟨fun _ => kk h ho hs, fun hx => absurd (by decide) hx⟩
    exact ⟨fun _ => h16, fun z => absurd z (by omega), fun _ _ => rowEnd 8 h (by decide) (by decide) h16 (by decide)⟩
  | succ d ih =>
    intro i h hd hi ho hj e5 e6 hs
    have h25 : wX1_findSurest_25 g KV h (nI k) (nI a) (nI b) (nI (i / 2)) (nI (i % 2)) := by
      refine vX1_findSurest_25 ⟨fun hx => ?_, fun _ => ⟨vp_in_nI (by omega) (by decide), vp_in_nI (by omega) (by decide), ?_⟩⟩
      · rw [show (1 : Int32) = nI 1 from rfl, nI_ltI (by decide) (by omega)] at hx; omega
      · rw [ix_nI (by omega)]
        have o1 : Only scX h (q_up (q_up h 21 k (nI (i / 2))) 22 k (nI (i % 2))) := (Only.up (by decide)).trans (Only.up (by decide))
        have hT1 := hT0.xo (ho.trans o1) (fun _ z => z)
        have hW : XW (q_up (q_up h 21 k (nI (i / 2))) 22 k (nI (i % 2))) n (stf pc k (i / 2)) (stf wy k (i % 2)) := fun j hjn => by
          have t3 := (hT0.2.2.2 j hjn).2.2
          rw [up_cell _ _ _ _ (by decide)]
          unfold stf
          by_cases e : j = k
          · subst e
            rw [up_at, up_at, if_pos rfl, if_pos rfl]
            exact ⟨rfl, by omega, rfl, by omega⟩
          · rw [up_row _ _ _ _ e, up_row _ _ _ _ e, up_cell _ _ _ _ (by decide), if_neg e, if_neg e]
            exact ⟨(hj j hjn e).1, t3.1.2.2, (hj j hjn e).2, t3.2.1.2.2⟩
        refine c_tally hab hb hT0.all hT0.c4 hT1.xd hW e5 e6 (fun h2 o2 v2 => ⟨vp_in_nI (by omega) (by decide), ?_⟩)
        have o12 : Only scX h h2 := o1.trans (o2.weaken (by decide))
        have vk : h2 23 k = nI (tS p n kd sg pc wy c k a (b + 1 - a) i) := v2 k hk
        have ti := tle i
        have hj2 : ∀ j, j < n → j ≠ k → h2 21 j = nI (pc j) ∧ h2 22 j = nI (wy j) := fun j hjn e => by
          rw [o2 21 (by decide), o2 22 (by decide), up_cell _ _ _ _ (by decide), up_row _ _ _ _ e, up_row _ _ _ _ e, up_cell _ _ _ _ (by decide)]
          exact hj j hjn e
        have e52 : h2 20 5 = nI (2 ^ n - 1) := by rw [o2 20 (by decide)]; exact e5
        have e62 : h2 20 6 = nI c := by rw [o2 20 (by decide)]; exact e6
        have e24 : h2 24 = h 24 := by rw [o2 24 (by decide), up_cell _ _ _ _ (by decide), up_cell _ _ _ _ (by decide)]
        -- on to the next pair
        have next : ∀ h3 : Hp, Only scX h0 h3 → (∀ j, j < n → j ≠ k → h3 21 j = nI (pc j) ∧ h3 22 j = nI (wy j)) → h3 20 5 = nI (2 ^ n - 1) → h3 20 6 = nI c → XF h3 (tS p n kd sg pc wy c k a (b + 1 - a)) (i + 1) → wX1_findSurest_25 g KV h3 (nI k) (nI a) (nI b) (nI (i / 2)) (nI (i % 2) + 1) := by
          intro h3 o3 j3 e53 e63 s3
          obtain ⟨n1, n2, n3⟩ := ih (i + 1) h3 (by omega) (by omega) o3 j3 e53 e63 s3
          rw [nI_1]
          by_cases hp2 : i % 2 = 0
          · have := n2 (by omega)
            rw [show (i + 1) / 2 = i / 2 by omega, show (i + 1) % 2 = i % 2 + 1 by omega] at this
            exact this
          · have := n3 (by omega) (by omega)
            rw [show (i + 1) / 2 - 1 = i / 2 by omega] at this
            rw [show i % 2 + 1 = 2 by omega]
            exact this
        rw [vk, e24]
        rcases hs with ⟨z1, z2⟩ | ⟨v, hv, f3, f5, f6⟩
        · subst z1
          rw [z2, nI_leI (by decide) (by omega)]
          refine ⟨fun hx => by omega, fun _ => ⟨vp_in_nI (by omega) (by decide), ?_⟩⟩
          refine next _ (((ho.trans o12).trans ((Only.up (by decide)).trans (Only.up (by decide)))).trans (Only.up (by decide))) hj2 e52 e62 (Or.inr ⟨0, BM.one _, rfl, rfl, rfl⟩)
        · have tv := tle v
          rw [f3, nI_leI (by omega) (by omega)]
          refine ⟨fun hx => next h2 (ho.trans o12) hj2 e52 e62 (Or.inr ⟨v, hv.keep hx, by rw [e24]; exact f3, by rw [e24]; exact f5, by rw [e24]; exact f6⟩), fun hx => ⟨vp_in_nI (by omega) (by decide), ?_⟩⟩
          exact next _ (((ho.trans o12).trans ((Only.up (by decide)).trans (Only.up (by decide)))).trans (Only.up (by decide))) hj2 e52 e62 (Or.inr ⟨i, hv.new (by omega), rfl, rfl, rfl⟩)
    have h16 : i % 2 = 0 → wX1_findSurest_16 g KV h (nI k) (nI a) (nI b) (nI (i / 2)) := fun hp2 => by
      refine vX1_findSurest_16 ⟨fun hx => ?_, fun _ => ?_⟩
      · rw [show (3 : Int32) = nI 3 from rfl, nI_ltI (by decide) (by omega)] at hx; omega
      · rw [hp2] at h25; exact h25
    exact ⟨h16, fun _ => h25, fun hp2 hi0 => rowEnd i h hi0 hi (h16 hp2) (by omega)⟩
theorem op_surest {a b c d : Int32} (hS : Sim h) : FI g mX7_surest [.ref 0, .int a, .int b, .int c, .int d] h (fun r h1 => FI g mX8_surest [.ref 44, .int a, .int b, .int c, .int d] h1 (fun r2 h2 => r = r2 ∧ Sim h2)) := by
  obtain ⟨p, n, ch, kd, sg, pc, wy, wt, hT, -⟩ := (Sim.iff h).mp hS
  have hn := hT.1.2.2.1
  have e0 : (0 : Int32).toInt = 0 := by decide
  have e2' : (2 : Int32).toInt = 2 := by decide
  have in2 : ∀ (hh : Hp) (K2 : Int32 → Hp → Prop), K2 (bi (decide (0 ≤ d.toInt ∧ d.toInt ≤ 2))) hh → FI g mX8_in [.long d.toInt64, .long (0 : Int64), .long (2 : Int64)] hh K2 := fun hh K2 hk => c_inI (by decide) (by decide) hk
  refine eX7_surest (vX7_surest_0 (c_hasGuest (by omega) hT.2.1.2.2 (br_b' (fun e1 => ?_) (fun e1 => c_areMinutes (br_b (fun e2 => ?_) (fun e2 => ?_))))))
  · exact eX8_surest (vX8_surest_0 (c_isGuest (by omega) hT.2.2.1.2.2 (br_b' (fun _ => ⟨rfl, hS⟩) (fun z => by rw [e1] at z; cases z))))
  · exact eX8_surest (vX8_surest_0 (c_isGuest (by omega) hT.2.2.1.2.2 (br_b' (fun z => by rw [e1] at z; cases z) (fun _ => c_isSpan (br_b (fun _ => ⟨rfl, hS⟩) (fun z => by rw [e2] at z; cases z))))))
  · have bad : ¬ (0 ≤ d.toInt ∧ d.toInt ≤ 2) → FI g mX8_surest [.ref 44, .int a, .int b, .int c, .int d] h (fun r2 h2 => (-3 : Int32) = r2 ∧ Sim h2) := fun hb => eX8_surest (vX8_surest_0 (c_isGuest (by omega) hT.2.2.1.2.2 (br_b' (fun z => by rw [e1] at z; cases z) (fun _ => c_isSpan (br_b (fun z => by rw [e2] at z; cases z) (fun _ => in2 _ _ (br_b' (fun _ => ⟨rfl, hS⟩) (fun z => absurd (of_decide_eq_true z) hb))))))))
    refine ⟨fun hx => bad (by rw [i_lt, e0] at hx; omega), fun hx => ⟨fun hy => ?_, fun hy => bad (by rw [i_le, e2'] at hy; omega)⟩⟩
    rw [i_lt, e0] at hx
    rw [i_le, e2'] at hy
    obtain ⟨k, hk, rfl⟩ := blw_of e1
    obtain ⟨A, B, hAB, hB, rfl, rfl⟩ := spn_of e2
    refine eX1_findSurest (vX1_findSurest_0 (c_told hT (fun h2 o2 hT2 hW2 e5 e6 => ?_)))
    refine (l_xsure (g := g) (h0 := h) hk hAB hB hT (fun h3 o3 hF => ?_) 8 0 (q_up h2 24 3 101) rfl (by decide) ((o2.weaken (by decide)).trans (Only.up (by decide))) (fun j hj _ => ⟨(hW2 j hj).1, (hW2 j hj).2.2.1⟩) e5 e6 (Or.inl ⟨rfl, rfl⟩)).1 rfl
    rcases hF with ⟨z, -⟩ | ⟨v, hv, f3, f5, f6⟩
    · cases z
    · have hT3 := hT.xo o3 (fun _ z => z)
      have mside : ∀ {r : Int32}, ((¬ d = 0 → (¬ d = 1 → r = nI (tS p n kd sg pc wy ch k A (B + 1 - A) v)) ∧ (d = 1 → r = nI (v % 2))) ∧ (d = 0 → r = nI (v / 2))) → FI g mX8_surest [.ref 44, .int (nI k), .int (nI A), .int (nI B), .int d] h3 (fun r2 h2 => r = r2 ∧ Sim h2) := by
        intro r hr
        refine eX8_surest (vX8_surest_0 (c_isGuest (n := n) (by omega) hT3.2.2.1.2.2 (br_b' (fun z => by rw [e1] at z; cases z) (fun _ => c_isSpan (br_b (fun z => by rw [e2] at z; cases z) (fun _ => in2 _ _ (br_b' (fun z => absurd (by omega) (of_decide_eq_false z)) (fun _ => ⟨vp_in_nI (by omega) (by decide), vp_in_nI (by omega) (by decide), ?_⟩))))))))
        rw [ix_nI (by omega)]
        refine l_msure (g := g) (h0 := h3) hk hn hAB hB hT.c4 hT3.md hT3.2.2.1.2.1 (fun h4 v2 o4 hv2 => ?_) 8 0 h3 _ _ rfl (by decide) (OnlyM.rf _) (fun j _ => ⟨rfl, rfl⟩) (Or.inl ⟨rfl, rfl, rfl⟩)
        have ev := hv2.uniq hv
        subst ev
        have hS4 : Sim h4 := (hS.x o3).m (o4.weaken (by decide) (by decide))
        exact ⟨fun z0 => ⟨fun z1 => ⟨(hr.1 z0).1 z1, hS4⟩, fun z1 => ⟨(hr.1 z0).2 z1, hS4⟩⟩, fun z0 => ⟨hr.2 z0, hS4⟩⟩
      refine ⟨fun z0 => ⟨fun z1 => ?_, fun z1 => ?_⟩, fun z0 => ?_⟩
      · rw [f3]; exact mside ⟨fun _ => ⟨fun _ => rfl, fun z => absurd z z1⟩, fun z => absurd z z0⟩
      · rw [f6]; exact mside ⟨fun _ => ⟨fun z => absurd z1 z, fun _ => rfl⟩, fun z => absurd z z0⟩
      · rw [f5]; exact mside ⟨fun z => absurd z0 z, fun _ => rfl⟩
end Su
