/-! plot -/
theorem nI_all (a : Int32) : ∃ s : Nat, s < 2 ^ 32 ∧ a = nI s := by
  refine ⟨a.toBitVec.toNat, a.toBitVec.isLt, ?_⟩
  apply Int32.toBitVec_inj.mp
  apply BitVec.eq_of_toNat_eq
  rw [pk_tn a.toBitVec.isLt]
theorem nI_eq0 {s : Nat} (h : s < 2 ^ 32) : nI s = 0 ↔ s = 0 := by
  refine ⟨fun e => ?_, fun e => by rw [e]; rfl⟩
  have := congrArg (fun x : Int32 => x.toBitVec.toNat) e
  simp only [pk_tn h] at this
  exact this
theorem sdf_0 {a b : Nat} : sdf a b = 0 ↔ ∀ k, a.testBit k = true → b.testBit k = true := by
  constructor
  · intro e k hk
    have := sdf_tb a b k
    rw [e, Nat.zero_testBit, hk] at this
    cases hb : b.testBit k with
    | true => rfl
    | false => rw [hb] at this; cases this
  · intro e
    apply Nat.eq_of_testBit_eq
    intro k
    rw [sdf_tb, Nat.zero_testBit]
    cases ha : a.testBit k with
    | false => rfl
    | true => rw [e k ha]; rfl
theorem sdf_all {a n : Nat} : sdf a (2 ^ n - 1) = 0 ↔ a < 2 ^ n := by
  rw [sdf_0]
  constructor
  · intro e
    apply Nat.lt_pow_two_of_testBit
    intro i hi
    cases hb : a.testBit i with
    | false => rfl
    | true =>
      have := e i hb
      rw [a_all_tb] at this
      have := of_decide_eq_true this
      omega
  · intro e k hk
    rw [a_all_tb]
    apply decide_eq_true
    rcases Nat.lt_or_ge k n with h | h
    · exact h
    · rw [a_ge_tb e h] at hk; cases hk
def alw (n : Nat) (a : Int32) : Bool := decide (0 ≤ a.toInt ∧ a.toInt ≤ ((2 ^ n - 1 : Nat) : Int))
theorem alw_iff {n : Nat} {a : Int32} (hn : n ≤ 6) : a &&& (nI (2 ^ n - 1) ^^^ (-1)) = 0 ↔ alw n a = true := by
  have h2n : 2 ^ n - 1 < 64 := p64 hn (by have := Nat.one_le_two_pow (n := n); omega)
  have h1 := Nat.one_le_two_pow (n := n)
  obtain ⟨s, hs, rfl⟩ := nI_all a
  rw [a_sdf hs (by omega), nI_eq0 (sdf_le hs), sdf_all]
  unfold alw
  rw [decide_eq_true_iff]
  by_cases hx : s < 2 ^ 31
  · rw [nI_toInt hx]; omega
  · constructor
    · intro z; omega
    · intro ⟨z1, z2⟩
      exfalso
      have e : (nI s).toInt = (s : Int) - 2 ^ 32 := by
        show (nI s).toBitVec.toInt = _
        rw [BitVec.toInt_eq_toNat_cond, pk_tn hs, if_neg (by omega)]
        rfl
      rw [e] at z1
      omega
theorem alw_of {n : Nat} {a : Int32} (hn : n ≤ 6) (h : alw n a = true) : ∃ F, F < 2 ^ n ∧ a = nI F := by
  have h := of_decide_eq_true h
  have h1 := Nat.one_le_two_pow (n := n)
  have h2n : 2 ^ n - 1 < 64 := p64 hn (by omega)
  refine ⟨a.toInt.toNat, by omega, ?_⟩
  rw [i_eq, nI_toInt (by omega)]
  omega
def zpc (s : Nat) (pc : Nat → Nat) : Nat → Nat := fun i => if s.testBit i = true then 0 else pc i
theorem zpc_le {s j : Nat} {pc : Nat → Nat} (h : pc j ≤ 3) : zpc s pc j ≤ 3 := by
  unfold zpc
  split
  · omega
  · exact h
/-- the first of the least among the good -/
def BG (G : Nat → Prop) (T : Nat → Nat) (i : Nat) : Option Nat → Prop
  | none => ∀ w, w < i → ¬ G w
  | some v => v < i ∧ G v ∧ ∀ w, w < i → G w → T v < T w ∨ (T v = T w ∧ v ≤ w)
theorem BG.uniq {G : Nat → Prop} {T : Nat → Nat} {i : Nat} : ∀ {o o2 : Option Nat}, BG G T i o → BG G T i o2 → o = o2
  | none, none, _, _ => rfl
  | none, some v, a, b => absurd b.2.1 (a v b.1)
  | some v, none, a, b => absurd a.2.1 (b v a.1)
  | some v, some w, a, b => by
    have := a.2.2 w b.1 b.2.1
    have := b.2.2 v a.1 a.2.1
    rw [show v = w by omega]
theorem BG.no {G : Nat → Prop} {T : Nat → Nat} {i : Nat} (hg : ¬ G i) : ∀ {o : Option Nat}, BG G T i o → BG G T (i + 1) o
  | none, a => fun w hw => by
    by_cases e : w = i
    · rw [e]; exact hg
    · exact a w (by omega)
  | some v, a => ⟨by have := a.1; omega, a.2.1, fun w hw gw => by
    by_cases e : w = i
    · rw [e] at gw; exact absurd gw hg
    · exact a.2.2 w (by omega) gw⟩
theorem BG.keep {G : Nat → Prop} {T : Nat → Nat} {i v : Nat} (h : T v ≤ T i) (a : BG G T i (some v)) : BG G T (i + 1) (some v) := by
  refine ⟨by have := a.1; omega, a.2.1, fun w hw gw => ?_⟩
  by_cases e : w = i
  · subst e; have := a.1; omega
  · exact a.2.2 w (by omega) gw
theorem BG.new {G : Nat → Prop} {T : Nat → Nat} {i : Nat} (hg : G i) : ∀ {o : Option Nat}, (∀ v, o = some v → T i < T v) → BG G T i o → BG G T (i + 1) (some i)
  | none, _, a => ⟨by omega, hg, fun w hw gw => by
    by_cases e : w = i
    · subst e; omega
    · exact absurd gw (a w (by omega))⟩
  | some v, h, a => ⟨by omega, hg, fun w hw gw => by
    have := h v rfl
    by_cases e : w = i
    · subst e; omega
    · have := a.2.2 w (by omega) gw; omega⟩
def oI : Option Nat → Int32
  | none => -1
  | some v => nI v
def oT (T : Nat → Nat) : Option Nat → Int32
  | none => -1
  | some v => nI (T v)
section Pl
variable {g : QG} {h : Hp} {K : Int32 → Hp → Prop} {KV : Hp → Prop}
theorem c_hasAll {n : Nat} {a : Int32} (hn : n ≤ 6) (e : h 1 2 = nI n) (hK : K (bi (alw n a)) h) : FI g mX6_hasAll [.ref 1, .int a] h K := by
  refine eX6_hasAll (vX6_hasAll_0 (c_everyone hn e ⟨fun z => ?_, fun z => ?_⟩))
  · rw [alw_iff hn, Bool.not_eq_true] at z
    rw [z] at hK; exact hK
  · rw [alw_iff hn] at z
    rw [z] at hK; exact hK
theorem l_keepStill {n s : Nat} {h0 : Hp} (hn : n ≤ 6) (hs : s < 64) (e : h0 1 2 = nI n) (kk : ∀ h2 : Hp, Only [21] h0 h2 → (∀ j, j < n → h2 21 j = if s.testBit j = true then 0 else h0 21 j) → KV h2) : ∀ (d i : Nat) (h : Hp), n - i = d → i ≤ n → Only [21] h0 h → (∀ j, j < i → h 21 j = if s.testBit j = true then 0 else h0 21 j) → (∀ j, i ≤ j → h 21 j = h0 21 j) → wX1_keepStill_9 g KV h (nI s) (nI i) := by
  intro d
  induction d with
  | zero =>
    intro i h hd hi ho v1 v2
    have ei : i = n := by omega
    subst ei
    refine vX1_keepStill_9 ⟨fun _ => kk h ho v1, fun z => absurd ?_ z⟩
    rw [ho 1 (by decide), e]
    exact nI_le (Nat.le_refl _) (by omega)
  | succ d ih =>
    intro i h hd hi ho v1 v2
    refine vX1_keepStill_9 ⟨fun z => ?_, fun _ => c_holds (by omega) (by omega) (br_b (fun b => ?_) (fun b => ⟨vp_in_nI (by omega) (by decide), ?_⟩))⟩
    · rw [ho 1 (by decide), e, nI_leI (by omega) (by omega)] at z; omega
    · rw [nI_1]
      refine ih (i + 1) h (by omega) (by omega) ho (fun j hj => ?_) (fun j hj => v2 j (by omega))
      by_cases ej : j = i
      · subst ej
        rw [if_neg (by rw [b]; decide), v2 j (by omega)]
      · exact v1 j (by omega)
    · rw [nI_1, ix_nI (by omega)]
      refine ih (i + 1) _ (by omega) (by omega) (ho.trans (Only.up (by decide))) (fun j hj => ?_) (fun j hj => by rw [up_row _ _ _ _ (by omega)]; exact v2 j (by omega))
      by_cases ej : j = i
      · subst ej
        rw [up_at, if_pos b]
      · rw [up_row _ _ _ _ ej]; exact v1 j (by omega)
theorem c_keepStill {p n c s : Nat} {kd sg pc wy wt : Nat → Nat} (hs : s < 64) (hT : TdR h p n c kd sg pc wy wt) (kk : ∀ h2 : Hp, Only [20, 21, 22] h h2 → TdR h2 p n c kd sg pc wy wt → XW h2 n (zpc s pc) wy → h2 20 5 = nI (2 ^ n - 1) → h2 20 6 = nI c → KV h2) : FV g mX1_keepStill [.ref 24, .int (nI s)] h KV := by
  refine eX1_keepStill (vX1_keepStill_0 (c_told hT (fun h2 o2 hT2 hW2 e5 e6 => ?_)))
  refine l_keepStill (g := g) hT.1.2.2.1 hs hT2.2.1.2.2 (fun h3 o3 v3 => ?_) n 0 h2 rfl (Nat.zero_le _) (Only.rf _) (fun j hj => by omega) (fun j _ => rfl)
  refine kk h3 (o2.trans (o3.weaken (by decide))) (hT2.xo o3 (by decide)) (fun k hk => ?_) (by rw [o3 20 (by decide)]; exact e5) (by rw [o3 20 (by decide)]; exact e6)
  obtain ⟨w1, w2, w3, w4⟩ := hW2 k hk
  rw [v3 k hk, o3 22 (by decide)]
  unfold zpc
  split
  · exact ⟨rfl, by omega, w3, w4⟩
  · exact ⟨w1, w2, w3, w4⟩
/-- set s of friends makes k stand -/
def gP (p n : Nat) (kd sg pc wy : Nat → Nat) (c k t F : Nat) (s : Nat) : Prop := sdf s F = 0 ∧ (SS p n kd (atT p sg (zpc s pc) wy t) c (2 ^ n - 1)).testBit k = true
theorem l_xplot {p n c k t F : Nat} {kd sg pc wy wt : Nat → Nat} {h0 : Hp} (hk : k < n) (ht : t ≤ 99) (hF : F < 64) (hT0 : TdR h0 p n c kd sg pc wy wt)
    (kk : ∀ (h2 : Hp) (o : Option Nat), Only scX h0 h2 → BG (gP p n kd sg pc wy c k t F) pcn (F + 1) o → h2 24 3 = oT pcn o → h2 24 4 = oI o → KV h2) : ∀ (d i : Nat) (h : Hp) (o : Option Nat), F + 1 - i = d → i ≤ F + 1 → Only scX h0 h → BG (gP p n kd sg pc wy c k t F) pcn i o → h 24 3 = oT pcn o → h 24 4 = oI o → wX1_findPlot_13 g KV h (nI k) (nI F) (nI t) (nI i) := by
  have hn := hT0.1.2.2.1
  intro d
  induction d with
  | zero =>
    intro i h o hd hi ho hb e3 e4
    have ei : i = F + 1 := by omega
    subst ei
    exact vX1_findPlot_13 ⟨fun _ => kk h o ho hb e3 e4, fun z => absurd (nI_lt (Nat.lt_succ_self _) (by omega)) z⟩
  | succ d ih =>
    intro i h o hd hi ho hb e3 e4
    have hT := hT0.xo ho (fun _ z => z)
    refine vX1_findPlot_13 ⟨fun z => ?_, fun _ => c_bitCount (by omega) ⟨fun z => ?_, fun z => ?_⟩⟩
    · rw [nI_ltI (by omega) (by omega)] at z; omega
    · rw [a_sdf (by omega) (by omega)] at z
      rw [nI_1]
      exact ih (i + 1) h o (by omega) (by omega) ho (hb.no (fun q => z (by rw [q.1]; rfl))) e3 e4
    · rw [a_sdf (by omega) (by omega), nI_eq0 (Nat.lt_trans (sdf_le (n := 6) (by omega)) (by decide))] at z
      have go52 : (∀ v, o = some v → pcn i < pcn v) → wX1_findPlot_52 g KV h (nI k) (nI F) (nI t) (nI i) (nI (pcn i)) := by
        intro hlt
        refine vX1_findPlot_52 (c_keepStill (by omega) hT (fun h1 o1 hT1 hW1 e5 e6 => ?_))
        refine c_stoodAt ht hT1.xd hW1 hT.all hT.c4 e5 e6 (fun h2 u o2 _ _ h64 => ?_)
        have o12 : Only scX h h2 := (o1.weaken (by decide)).trans (o2.weaken (by decide))
        have e24 : h2 24 = h 24 := by rw [o2 24 (by decide), o1 24 (by decide)]
        refine c_holds (by omega) (by omega) (br_b (fun b => ?_) (fun b => ?_))
        · rw [nI_1]
          exact ih (i + 1) h2 o (by omega) (by omega) (ho.trans o12) (hb.no (fun q => by rw [q.2] at b; cases b)) (by rw [e24]; exact e3) (by rw [e24]; exact e4)
        · rw [nI_1]
          exact ih (i + 1) _ (some i) (by omega) (by omega) ((ho.trans o12).trans ((Only.up (by decide)).trans (Only.up (by decide)))) (hb.new ⟨z, b⟩ hlt) rfl rfl
      cases o with
      | none =>
        refine ⟨fun _ => go52 (fun v q => by cases q), fun q => absurd e3 q⟩
      | some v =>
        have p1 : pcn v ≤ 12 := pcN_le v 12
        have p2 : pcn i ≤ 12 := pcN_le i 12
        rw [e3]
        refine ⟨fun q => absurd q (a_m1 _ (by omega)), fun _ => ?_⟩
        show (nI (pcn v) ≤ nI (pcn i) → _) ∧ (¬ nI (pcn v) ≤ nI (pcn i) → _)
        rw [nI_leI (by omega) (by omega)]
        refine ⟨fun q => ?_, fun q => go52 (fun w e => by cases e; omega)⟩
        rw [nI_1]
        exact ih (i + 1) h (some v) (by omega) (by omega) ho (hb.keep q) e3 e4
theorem l_save {n : Nat} {h0 : Hp} (hn : n ≤ 6) (e : h0 44 13 = nI n) (kk : ∀ h2 : Hp, OnlyM [57] [] h0 h2 → (∀ j, j < n → h2 57 j = h0 51 j) → KV h2) : ∀ (d i : Nat) (h : Hp), n - i = d → i ≤ n → OnlyM [57] [] h0 h → (∀ j, j < i → h 57 j = h0 51 j) → wX8_savePaces_2 g KV h (nI i) := by
  intro d
  induction d with
  | zero =>
    intro i h hd hi ho v1
    have ei : i = n := by omega
    subst ei
    refine vX8_savePaces_2 ⟨fun _ => kk h ho v1, fun z => absurd ?_ z⟩
    rw [ho.2 13 (by decide), e]
    exact nI_le (Nat.le_refl _) (by omega)
  | succ d ih =>
    intro i h hd hi ho v1
    refine vX8_savePaces_2 ⟨fun z => ?_, fun _ => ⟨vp_in_nI (by omega) (by decide), vp_in_nI (by omega) (by decide), ?_⟩⟩
    · rw [ho.2 13 (by decide), e, nI_leI (by omega) (by omega)] at z; omega
    · rw [nI_1, ix_nI (by omega), ho.1 51 (by decide) (by decide)]
      refine ih (i + 1) _ (by omega) (by omega) (ho.trans (OnlyM.upC (by decide) (by decide))) (fun j hj => ?_)
      by_cases ej : j = i
      · subst ej; rw [up_at]
      · rw [up_row _ _ _ _ ej]; exact v1 j (by omega)
theorem c_savePaces {n : Nat} (hn : n ≤ 6) (e : h 44 13 = nI n) (kk : ∀ h2 : Hp, OnlyM [57] [] h h2 → (∀ j, j < n → h2 57 j = h 51 j) → KV h2) : FV g mX8_savePaces [.ref 44] h KV :=
  eX8_savePaces (vX8_savePaces_0 (l_save (g := g) hn e kk n 0 h rfl (Nat.zero_le _) (OnlyM.rf _) (fun j hj => by omega)))
theorem l_rest {n : Nat} {h0 : Hp} (hn : n ≤ 6) (e : h0 44 13 = nI n) (kk : ∀ h2 : Hp, OnlyM [51] [] h0 h2 → (∀ j, j < n → h2 51 j = h0 57 j) → (∀ j, n ≤ j → h2 51 j = h0 51 j) → KV h2) : ∀ (d i : Nat) (h : Hp), n - i = d → i ≤ n → OnlyM [51] [] h0 h → (∀ j, j < i → h 51 j = h0 57 j) → (∀ j, i ≤ j → h 51 j = h0 51 j) → wX8_restorePaces_2 g KV h (nI i) := by
  intro d
  induction d with
  | zero =>
    intro i h hd hi ho v1 v2
    have ei : i = n := by omega
    subst ei
    refine vX8_restorePaces_2 ⟨fun _ => kk h ho v1 v2, fun z => absurd ?_ z⟩
    rw [ho.2 13 (by decide), e]
    exact nI_le (Nat.le_refl _) (by omega)
  | succ d ih =>
    intro i h hd hi ho v1 v2
    refine vX8_restorePaces_2 ⟨fun z => ?_, fun _ => ⟨vp_in_nI (by omega) (by decide), vp_in_nI (by omega) (by decide), ?_⟩⟩
    · rw [ho.2 13 (by decide), e, nI_leI (by omega) (by omega)] at z; omega
    · rw [nI_1, ix_nI (by omega), ho.1 57 (by decide) (by decide)]
      refine ih (i + 1) _ (by omega) (by omega) (ho.trans (OnlyM.upC (by decide) (by decide))) (fun j hj => ?_) (fun j hj => by rw [up_row _ _ _ _ (by omega)]; exact v2 j (by omega))
      by_cases ej : j = i
      · subst ej; rw [up_at]
      · rw [up_row _ _ _ _ ej]; exact v1 j (by omega)
theorem c_restorePaces {n : Nat} (hn : n ≤ 6) (e : h 44 13 = nI n) (kk : ∀ h2 : Hp, OnlyM [51] [] h h2 → (∀ j, j < n → h2 51 j = h 57 j) → (∀ j, n ≤ j → h2 51 j = h 51 j) → KV h2) : FV g mX8_restorePaces [.ref 44] h KV :=
  eX8_restorePaces (vX8_restorePaces_0 (l_rest (g := g) hn e kk n 0 h rfl (Nat.zero_le _) (OnlyM.rf _) (fun j hj => by omega) (fun _ _ => rfl)))
/-- the paces, some made 0 -/
theorem MDt.paces {h0 h : Hp} {p n : Nat} {kd sg pc wy pc2 : Nat → Nat} {L J : List Nat} (a : MDt h0 p n kd sg pc wy) (o : OnlyM L J h0 h) (hL : 49 ∉ L ∧ 50 ∉ L ∧ 52 ∉ L) (hJ : 6 ∉ J ∧ 13 ∉ J) (e : ∀ j, j < n → h 51 j = nI (pc2 j) ∧ pc2 j ≤ 3) : MDt h p n kd sg pc2 wy := by
  obtain ⟨a1, a2, a3, a4, a5, a6⟩ := a
  refine ⟨a1, a2, a3, by rw [o.2 6 hJ.1]; exact a4, by rw [o.2 13 hJ.2]; exact a5, fun j hj => ?_⟩
  obtain ⟨k1, k2, k3, k4, w1, w2, w3, w4⟩ := a6 j hj
  rw [o.1 49 hL.1 (by decide), o.1 50 hL.2.1 (by decide), o.1 52 hL.2.2 (by decide)]
  exact ⟨k1, k2, k3, k4, (e j hj).1, (e j hj).2, w3, w4⟩
theorem l_mplot {p n c k t F : Nat} {q : Int32} {kd sg pc wy : Nat → Nat} {h0 : Hp} (hk : k < n) (ht : t ≤ 99) (hF : F < 64) (hM0 : MDt h0 p n kd sg pc wy) (hc : c < 4096) (e70 : h0 44 7 = nI c) (e57 : ∀ j, j < n → h0 57 j = h0 51 j)
    (kk : ∀ (h2 : Hp) (o : Option Nat), OnlyM [54, 55, 56] [23, 24, 25] h0 h2 → BG (gP p n kd sg pc wy c k t F) pcn (F + 1) o → K (if q = 0 then oT pcn o else oI o) h2) : ∀ (d i : Nat) (h : Hp) (o : Option Nat), F + 1 - i = d → i ≤ F + 1 → OnlyM [51, 54, 55, 56] [23, 24, 25] h0 h → (∀ j, n ≤ j → h 51 j = h0 51 j) → BG (gP p n kd sg pc wy c k t F) pcn i o → wX8_plot_64 g K h (nI k) (nI F) (nI t) q (oI o) (nI i) := by
  have hn := hM0.2.1
  have e13 := hM0.2.2.2.2.1
  intro d
  induction d with
  | zero =>
    intro i h o hd hi ho hj hb
    have ei : i = F + 1 := by omega
    subst ei
    refine vX8_plot_64 ⟨fun _ => ?_, fun z => absurd (nI_lt (Nat.lt_succ_self _) (by omega)) z⟩
    refine c_restorePaces hn (by rw [ho.2 13 (by decide)]; exact e13) (fun h1 o1 v1 v2 => ?_)
    have o01 : OnlyM [54, 55, 56] [23, 24, 25] h0 h1 := by
      refine ⟨fun r hr h4 => ?_, fun j hj2 => by rw [o1.2 j (by simp), ho.2 j hj2]⟩
      by_cases e51 : r = 51
      · subst e51
        funext j
        by_cases hjn : j < n
        · rw [v1 j hjn, ho.1 57 (by decide) (by decide), e57 j hjn]
        · rw [v2 j (by omega), hj j (by omega)]
      · rw [o1.1 r (by simpa using e51) h4, ho.1 r (by simp only [List.mem_cons, List.not_mem_nil, or_false, not_or] at hr ⊢; omega) h4]
    have fin := kk h1 o o01 hb
    cases o with
    | none =>
      refine ⟨fun z => absurd rfl z, fun _ => ?_⟩
      rw [show (if q = 0 then oT pcn none else oI none) = (-1 : Int32) from by split <;> rfl] at fin
      exact fin
    | some v =>
      refine ⟨fun _ => ⟨fun z => ?_, fun z => ?_⟩, fun z => absurd z (a_m1 _ (by have := hb.1; omega))⟩
      · rw [if_neg z] at fin; exact fin
      · rw [if_pos z] at fin
        exact c_bits (by have := hb.1; omega) fin
  | succ d ih =>
    intro i h o hd hi ho hj hb
    refine vX8_plot_64 ⟨fun z => ?_, fun _ => ⟨fun z => ?_, fun z => ?_⟩⟩
    · rw [nI_ltI (by omega) (by omega)] at z; omega
    · rw [a_sdf (by omega) (by omega)] at z
      rw [nI_1]
      exact ih (i + 1) h o (by omega) (by omega) ho hj (hb.no (fun q => z (by rw [q.1]; rfl)))
    · rw [a_sdf (by omega) (by omega), nI_eq0 (Nat.lt_trans (sdf_le (n := 6) (by omega)) (by decide))] at z
      have go101 : (∀ v, o = some v → pcn i < pcn v) → ∀ (d2 m : Nat) (h1 : Hp), n - m = d2 → m ≤ n → OnlyM [51, 54, 55, 56] [23, 24, 25] h0 h1 → (∀ j, n ≤ j → h1 51 j = h0 51 j) → (∀ j, j < m → h1 51 j = nI (zpc i pc j)) → wX8_plot_101 g K h1 (nI k) (nI F) (nI t) q (oI o) (nI i) (nI m) := by
        intro hlt d2
        induction d2 with
        | zero =>
          intro m h1 hd2 hm o1 j1 v1
          have em : m = n := by omega
          subst em
          have hM1 : MDt h1 p m kd sg (zpc i pc) wy := hM0.paces o1 (by decide) (by decide) (fun j hj => ⟨v1 j hj, zpc_le (hM0.2.2.2.2.2 j hj).2.2.2.2.2.1⟩)
          refine vX8_plot_101 ⟨fun _ => ?_, fun z => absurd (by rw [o1.2 13 (by decide), e13]; exact nI_le (Nat.le_refl _) (by omega)) z⟩
          refine c_standingAt ht hM1 hc (by rw [o1.2 7 (by decide)]; exact e70) (fun h2 u u2 o2 _ _ _ h64 => ?_)
          have o02 := o1.trans (o2.weaken (by decide) (by decide))
          have j2 : ∀ j, m ≤ j → h2 51 j = h0 51 j := fun j hj => by rw [o2.1 51 (by decide) (by decide)]; exact j1 j hj
          refine c_has (by omega) (by omega) (br_b (fun b => ?_) (fun b => ?_))
          · rw [nI_1]
            exact ih (i + 1) h2 o (by omega) (by omega) o02 j2 (hb.no (fun q => by rw [q.2] at b; cases b))
          · rw [nI_1]
            exact ih (i + 1) h2 (some i) (by omega) (by omega) o02 j2 (hb.new ⟨z, b⟩ hlt)
        | succ d2 ih2 =>
          intro m h1 hd2 hm o1 j1 v1
          refine vX8_plot_101 ⟨fun z => ?_, fun _ => c_has (by omega) (by omega) (br_b (fun b => ⟨vp_in_nI (by omega) (by decide), vp_in_nI (by omega) (by decide), ?_⟩) (fun b => ⟨vp_in_nI (by omega) (by decide), ?_⟩))⟩
          · rw [o1.2 13 (by decide), e13, nI_leI (by omega) (by omega)] at z; omega
          · rw [nI_1, ix_nI (by omega)]
            refine ih2 (m + 1) _ (by omega) (by omega) (o1.trans (OnlyM.upC (by decide) (by decide))) (fun j hj => by rw [up_row _ _ _ _ (by omega)]; exact j1 j hj) (fun j hj => ?_)
            by_cases ej : j = m
            · subst ej
              rw [up_at, o1.1 57 (by decide) (by decide), e57 j (by omega), (hM0.2.2.2.2.2 j (by omega)).2.2.2.2.1]
              unfold zpc
              rw [if_neg (by rw [b]; decide)]
            · rw [up_row _ _ _ _ ej]; exact v1 j (by omega)
          · rw [nI_1, ix_nI (by omega)]
            refine ih2 (m + 1) _ (by omega) (by omega) (o1.trans (OnlyM.upC (by decide) (by decide))) (fun j hj => by rw [up_row _ _ _ _ (by omega)]; exact j1 j hj) (fun j hj => ?_)
            by_cases ej : j = m
            · subst ej
              rw [up_at]
              unfold zpc
              rw [if_pos b]
              rfl
            · rw [up_row _ _ _ _ ej]; exact v1 j (by omega)
      cases o with
      | none =>
        refine ⟨fun _ => go101 (fun v q => by cases q) n 0 h rfl (Nat.zero_le _) ho hj (fun j hj => by omega), fun q => absurd rfl q⟩
      | some v =>
        have p1 : pcn v ≤ 12 := pcN_le v 12
        have p2 : pcn i ≤ 12 := pcN_le i 12
        have hv := hb.1
        refine ⟨fun q => absurd q (a_m1 _ (by omega)), fun _ => c_bits (by omega) (c_bits (by omega) ?_)⟩
        rw [nI_leI (by omega) (by omega)]
        refine ⟨fun q => ?_, fun q => go101 (fun w e => by cases e; omega) n 0 h rfl (Nat.zero_le _) ho hj (fun j hj => by omega)⟩
        rw [nI_1]
        exact ih (i + 1) h (some v) (by omega) (by omega) ho hj (hb.keep q)
theorem op_plot {a b c d : Int32} (hS : Sim h) : FI g mX7_plot [.ref 0, .int a, .int b, .int c, .int d] h (fun r h1 => FI g mX8_plot [.ref 44, .int a, .int b, .int c, .int d] h1 (fun r2 h2 => r = r2 ∧ Sim h2)) := by
  obtain ⟨p, n, ch, kd, sg, pc, wy, wt, hT, -⟩ := (Sim.iff h).mp hS
  have hn := hT.1.2.2.1
  have h1n := Nat.one_le_two_pow (n := n)
  have h2n : 2 ^ n - 1 < 64 := p64 hn (by omega)
  have inA : ∀ (hh : Hp) (K2 : Int32 → Hp → Prop), K2 (bi (alw n b)) hh → FI g mX8_in [.long b.toInt64, .long (0 : Int64), .long (nI (2 ^ n - 1)).toInt64] hh K2 := fun hh K2 hk => c_inI (by decide) (by rw [Int32.toInt_toInt64, nI_toInt (by omega)]) hk
  refine eX7_plot (vX7_plot_0 (c_hasGuest (by omega) hT.2.1.2.2 (br_b (fun e1 => ?_) (fun e1 => c_hasAll hn hT.2.1.2.2 (br_b (fun e2 => ?_) (fun e2 => ?_))))))
  · exact eX8_plot (vX8_plot_0 (c_isGuest (by omega) hT.2.2.1.2.2 (br_b (fun _ => ⟨rfl, hS⟩) (fun z => by rw [e1] at z; cases z))))
  · exact eX8_plot (vX8_plot_0 (c_isGuest (by omega) hT.2.2.1.2.2 (br_b (fun z => by rw [e1] at z; cases z) (fun _ => c_everybody hn hT.2.2.1.2.2 (inA _ _ (br_b (fun _ => ⟨rfl, hS⟩) (fun z => by rw [e2] at z; cases z)))))))
  · have mgo : ∀ {h1 : Hp} {K2 : Int32 → Hp → Prop} {F k : Nat}, F < 64 → k < 6 → b = nI F → a = nI k → h1 44 13 = nI n → ((Nat.testBit F k = false → FI g mX8_isTime [.int c] h1 (fun x5 h5 => (x5 = 0 → K2 (-3) h5) ∧ (¬ x5 = 0 → FI g mX8_in [.long d.toInt64, .long (0 : Int64), .long (1 : Int64)] h5 (fun x6 h6 => (¬ x6 = 0 → FV g mX8_savePaces [.ref 44] h6 (fun h7 => wX8_plot_64 g K2 h7 a b c d (-1) 0)) ∧ (x6 = 0 → K2 (-3) h6))))) ∧ (Nat.testBit F k = true → K2 (-2) h1)) → FI g mX8_plot [.ref 44, .int a, .int b, .int c, .int d] h1 K2 := by
      intro h1 K2 F k hF hk eb ea e13 hk2
      refine eX8_plot (vX8_plot_0 (c_isGuest (by omega) e13 (br_b (fun z => by rw [e1] at z; cases z) (fun _ => c_everybody hn e13 (inA _ _ (br_b (fun z => by rw [e2] at z; cases z) (fun _ => ?_)))))))
      rw [ea, eb]
      refine c_has (by omega) (by omega) ?_
      rw [← ea, ← eb]
      exact br_b hk2.1 hk2.2
    obtain ⟨k, hk, ek⟩ := blw_of e1
    obtain ⟨F, hF, eF⟩ := alw_of hn e2
    have hF6 := p64 hn hF
    rw [ek, eF]
    refine c_holds (by omega) (by omega) (br_b (fun e3 => c_isMinute (br_b (fun e4 => ?_) (fun e4 => c_isEither (br_b' (fun e5 => ?_) (fun e5 => ?_))))) (fun e3 => ?_))
    · rw [← ek, ← eF]
      exact mgo hF6 (by omega) eF ek hT.2.2.1.2.2 ⟨fun _ => c_isTime (br_b (fun _ => ⟨rfl, hS⟩) (fun z => by rw [e4] at z; cases z)), fun z => by rw [e3] at z; cases z⟩
    · rw [← ek, ← eF]
      exact mgo hF6 (by omega) eF ek hT.2.2.1.2.2 ⟨fun _ => c_isTime (br_b (fun z => by rw [e4] at z; cases z) (fun _ => c_inE (br_b' (fun _ => ⟨rfl, hS⟩) (fun z => by rw [e5] at z; cases z)))), fun z => by rw [e3] at z; cases z⟩
    · obtain ⟨t, ht, rfl⟩ := min_of e4
      refine eX1_findPlot (vX1_findPlot_0 ?_)
      refine l_xplot (g := g) (h0 := h) hk ht hF6 hT (fun h3 o o3 hb f3 f4 => ?_) (F + 1) 0 _ none rfl (Nat.zero_le _) ((Only.up (by decide)).trans (Only.up (by decide))) (fun w hw => by omega) rfl rfl
      have hT3 := hT.xo o3 (fun _ z => z)
      have mside : ∀ {r : Int32}, (r = if d = 0 then oT pcn o else oI o) → FI g mX8_plot [.ref 44, .int (nI k), .int (nI F), .int (nI t), .int d] h3 (fun r2 h2 => r = r2 ∧ Sim h2) := by
        intro r hr
        rw [← ek, ← eF]
        refine mgo hF6 (by omega) eF ek hT3.2.2.1.2.2 ⟨fun _ => c_isTime (br_b (fun z => by rw [e4] at z; cases z) (fun _ => c_inE (br_b' (fun z => by rw [e5] at z; cases z) (fun _ => ?_)))), fun z => by rw [e3] at z; cases z⟩
        refine c_savePaces hn hT3.2.2.1.2.2 (fun h4 o4 v4 => ?_)
        rw [ek, eF]
        have hM4 : MDt h4 p n kd sg pc wy := hT3.md.keep o4 (by decide) (by decide)
        refine l_mplot (g := g) (h0 := h4) hk ht hF6 hM4 hT.c4 (by rw [o4.2 7 (by decide)]; exact hT3.2.2.1.2.1) (fun j hj => by rw [v4 j hj, o4.1 51 (by decide) (by decide)]) (fun h5 o2 o5 hb2 => ?_) (F + 1) 0 h4 none rfl (Nat.zero_le _) (OnlyM.rf _) (fun _ _ => rfl) (fun w hw => by omega)
        rw [hb2.uniq hb]
        exact ⟨hr, (hS.x o3).m ((o4.weaken (by decide) (by decide)).trans (o5.weaken (by decide) (by decide)))⟩
      refine ⟨fun z => ?_, fun z => ?_⟩
      · rw [f4]; exact mside (by rw [if_neg z])
      · rw [f3]; exact mside (by rw [if_pos z])
    · rw [← ek, ← eF]
      exact mgo hF6 (by omega) eF ek hT.2.2.1.2.2 ⟨fun z => (by rw [e3] at z; cases z), fun _ => ⟨rfl, hS⟩⟩
end Pl
