/-! the two sides side by side -/
/-- positions that last from call to call -/
def pers (k j : Nat) : Bool := match k with
  | 1 => true | 2 => true | 3 => true | 4 => true | 5 => true | 6 => true
  | 7 => j == 1
  | 8 => true
  | 26 => j == 0 || (j == 1 || j == 3)
  | 27 => true | 28 => true | 29 => true | 30 => true
  | 31 => true | 32 => true | 33 => true | 34 => true | 35 => true
  | 36 => true | 37 => true | 38 => true | 39 => true | 40 => true
  | 41 => true | 42 => true | 43 => true
  | 44 => j == 3 || (j == 6 || (j == 7 || (j == 13 || j == 30)))
  | 45 => true | 46 => true | 47 => true
  | 49 => true | 50 => true | 51 => true | 52 => true | 53 => true | 60 => true
  | _ => false
def msk (h : Hp) : Hp := fun k j => if pers k j = true then h k j else 0
def TdR (h : Hp) (p n c : Nat) (kd sg pc wy wt : Nat → Nat) : Prop :=
  (3 ≤ p ∧ p ≤ 12 ∧ n ≤ 6 ∧ c < 2 ^ p) ∧ (h 1 0 = nI p ∧ h 1 1 = nI c ∧ h 1 2 = nI n) ∧ (h 44 6 = nI p ∧ h 44 7 = nI c ∧ h 44 13 = nI n) ∧
  ∀ k, k < n → (h 2 k = nI (kd k) ∧ h 49 k = nI (kd k) ∧ kd k ≤ 3) ∧ (h 3 k = nI (sg k) ∧ h 50 k = nI (sg k) ∧ sg k < p) ∧ (h 4 k = nI (pc k) ∧ h 51 k = nI (pc k) ∧ pc k ≤ 3) ∧ (h 5 k = nI (wy k) ∧ h 52 k = nI (wy k) ∧ wy k ≤ 1) ∧ (h 6 k = nI (wt k) ∧ h 53 k = nI (wt k) ∧ wt k ≤ 99)
def TxR (h : Hp) : Prop := ∃ L, L ≤ 200 ∧ h 7 1 = nI L ∧ h 44 3 = nI L ∧ ∀ i, i < L → ∃ b, b < 256 ∧ h 8 i = nI b ∧ h 47 i = nI b
def HoR (h : Hp) (e o p n : Nat) : Prop := ∀ q, q < p → (∀ k, k < n → (h 45 (o + 9 + k) = nI q ∨ h 45 (o + 15 + k) = nI q) → h (e + 3) q = nI k) ∧ (h (e + 3) q = -1 ∨ ∃ k, k < n ∧ h (e + 3) q = nI k ∧ (h 45 (o + 9 + k) = nI q ∨ h 45 (o + 15 + k) = nI q))
def EvR (h : Hp) (e o p n : Nat) : Prop :=
  (∃ t, t ≤ 9999 ∧ h e 0 = nI t ∧ h 45 o = nI t) ∧ (∃ b : Bool, h e 1 = bi b ∧ h 45 (o + 1) = bi (!b)) ∧ h e 3 = h 45 (o + 2) ∧
  (∀ k, k < n → (∃ a, a < p ∧ h (e + 1) k = nI a ∧ h 45 (o + 3 + k) = nI a) ∧ h (e + 2) k = h 45 (o + 9 + k) ∧ h (e + 4) k = h 45 (o + 21 + k)) ∧ HoR h e o p n
def KpR (h : Hp) (e o i p n : Nat) : Prop := ∃ b : Bool, h e 2 = bi b ∧ h 46 i = bi b ∧ (b = true → EvR h e o p n)
def SnR (h : Hp) (n : Nat) : Prop := ∃ m, m ≤ 6 ∧ h 41 0 = nI m ∧ h 44 30 = nI m ∧ ∀ i, i < m → (∃ w, w < n ∧ h 42 i = nI w ∧ h 60 (2 * i) = nI w) ∧ ∃ b : Bool, h 43 i = bi b ∧ h 60 (2 * i + 1) = bi b
def Sm (h : Hp) : Prop := ∃ (p n c : Nat) (kd sg pc wy wt : Nat → Nat), TdR h p n c kd sg pc wy wt ∧ TxR h ∧ EvR h 26 0 p n ∧ KpR h 31 27 0 p n ∧ KpR h 36 54 1 p n ∧ SnR h n
def Sim (h : Hp) : Prop := Sm (msk h)
theorem Sim.iff (h : Hp) : Sim h ↔ Sm h := Iff.rfl
theorem Sim.congr {h h2 : Hp} (a : Sim h) (e : ∀ k j, pers k j = true → h2 k j = h k j) : Sim h2 := by
  have : msk h2 = msk h := by
    funext k j
    unfold msk
    split
    · rename_i hp; exact e k j hp
    · rfl
  unfold Sim
  rw [this]
  exact a
abbrev scX : List Nat := [9, 10, 11, 12, 13, 14, 15, 16, 17, 18, 19, 20, 21, 22, 23, 24, 25]
abbrev scM : List Nat := [48, 54, 55, 56, 57, 58, 59]
abbrev scJ : List Nat := [5, 14, 15, 16, 17, 18, 19, 23, 24, 25]
theorem pers_x {k j : Nat} (h : pers k j = true) : k ∉ scX := by
  intro hm
  simp only [scX, List.mem_cons, List.not_mem_nil, or_false] at hm
  rcases hm with rfl | rfl | rfl | rfl | rfl | rfl | rfl | rfl | rfl | rfl | rfl | rfl | rfl | rfl | rfl | rfl | rfl <;> cases h
theorem pers_m {k j : Nat} (h : pers k j = true) : k ∉ scM := by
  intro hm
  simp only [scM, List.mem_cons, List.not_mem_nil, or_false] at hm
  rcases hm with rfl | rfl | rfl | rfl | rfl | rfl | rfl <;> cases h
theorem pers_j {j : Nat} (h : pers 44 j = true) : j ∉ scJ := by
  intro hm
  simp only [scJ, List.mem_cons, List.not_mem_nil, or_false] at hm
  rcases hm with rfl | rfl | rfl | rfl | rfl | rfl | rfl | rfl | rfl | rfl <;> cases h
theorem Sim.x {h h2 : Hp} (a : Sim h) (o : Only scX h h2) : Sim h2 := a.congr (fun k j hp => by rw [o k (pers_x hp)])
theorem Sim.m {h h2 : Hp} (a : Sim h) (o : OnlyM scM scJ h h2) : Sim h2 := a.congr (fun k j hp => by
  by_cases e : k = 44
  · subst e; exact o.2 j (pers_j hp)
  · rw [o.1 k (pers_m hp) e])
theorem TdR.xd {h : Hp} {p n c : Nat} {kd sg pc wy wt : Nat → Nat} (a : TdR h p n c kd sg pc wy wt) : XD h p n kd sg := ⟨a.1.2.1, a.1.2.2.1, by have := a.1.1; omega, a.2.1.1, a.2.1.2.2, fun k hk => ⟨(a.2.2.2 k hk).1.1, (a.2.2.2 k hk).1.2.2, (a.2.2.2 k hk).2.1.1, (a.2.2.2 k hk).2.1.2.2⟩⟩
theorem TdR.md {h : Hp} {p n c : Nat} {kd sg pc wy wt : Nat → Nat} (a : TdR h p n c kd sg pc wy wt) : MDt h p n kd sg pc wy := ⟨a.1.2.1, a.1.2.2.1, by have := a.1.1; omega, a.2.2.1.1, a.2.2.1.2.2, fun k hk => ⟨(a.2.2.2 k hk).1.2.1, (a.2.2.2 k hk).1.2.2, (a.2.2.2 k hk).2.1.2.1, (a.2.2.2 k hk).2.1.2.2, (a.2.2.2 k hk).2.2.1.2.1, (a.2.2.2 k hk).2.2.1.2.2, (a.2.2.2 k hk).2.2.2.1.2.1, (a.2.2.2 k hk).2.2.2.1.2.2⟩⟩
theorem TdR.c4 {h : Hp} {p n c : Nat} {kd sg pc wy wt : Nat → Nat} (a : TdR h p n c kd sg pc wy wt) : c < 4096 := a_lt a.1.2.1 a.1.2.2.2
theorem TdR.xo {h h2 : Hp} {p n c : Nat} {kd sg pc wy wt : Nat → Nat} {L : List Nat} (a : TdR h p n c kd sg pc wy wt) (o : Only L h h2) (hL : ∀ k ∈ L, k ∈ scX) : TdR h2 p n c kd sg pc wy wt := by
  have e : ∀ k, k ∉ scX → h2 k = h k := fun k hk => o k (fun z => hk (hL k z))
  unfold TdR at a ⊢
  rw [e 1 (by decide), e 44 (by decide), e 2 (by decide), e 49 (by decide), e 3 (by decide), e 50 (by decide), e 4 (by decide), e 51 (by decide), e 5 (by decide), e 52 (by decide), e 6 (by decide), e 53 (by decide)]
  exact a
theorem SgI.noG {p n : Nat} {kd at_ : Nat → Nat} {W : Nat} (hW : ∀ k, k < n → W.testBit k = true → kd k ≠ 3) : ∀ {k : Nat} {s t : Sg}, SgI (SgS p n kd at_ W) k s t → t.2.2 = s.2.2
  | 0, s, t, h => by cases h; rfl
  | k + 1, s, t, ⟨u, ⟨g, q, hl, hK⟩, h⟩ => by
    have e2 : u.2.2 = s.2.2 := by
      have := hW g hl.1.1 hl.1.2.2.1
      rcases hK.2 with ⟨-, -, e⟩ | ⟨e, -⟩ | ⟨e, -⟩
      · exact e
      · exact absurd e this
      · exact absurd e this
    exact (SgI.noG hW h).trans e2
section Fr
variable {g : QG} {h : Hp} {K : Int32 → Hp → Prop} {KV : Hp → Prop}
theorem c_stoodAt {p n t A c : Nat} {kd sg pc wy : Nat → Nat} (ht : t ≤ 99) (hX : XD h p n kd sg) (hW : XW h n pc wy) (hA : A < 2 ^ n) (hc : c < 4096) (e5 : h 20 5 = nI A) (e6 : h 20 6 = nI c)
    (kk : ∀ (h2 : Hp) (u : Sg), Only [16, 17, 18, 19] h h2 → XS h2 n u → SgD p n kd (atT p sg pc wy t) (sdf A (fset kd 2 n)) (sg0 c) u → SS p n kd (atT p sg pc wy t) c A < 64 → K (nI (SS p n kd (atT p sg pc wy t) c A)) h2) : FI g mX2_stoodAt [.ref 20, .int (nI t)] h K := by
  refine eX2_stoodAt (vX2_stoodAt_0 (c_goTo ht hX hW (fun h1 o1 v1 => ?_)))
  rw [o1 20 (by decide), e5, e6]
  refine c_settle (XD.xt (hX.keep o1 (by decide)) v1) hA hc (fun h2 S u o2 x2 hD hSt hS => ?_)
  have es : S = SS p n kd (atT p sg pc wy t) c A := StR.ss ⟨fset kd 2 n, u, fset_fnt n kd, hD, hSt⟩
  rw [es] at hS ⊢
  exact kk h2 u ((o1.weaken (by decide)).trans (o2.weaken (by decide))) x2 hD hS
theorem Std.back {p n A : Nat} {kd at_ : Nat → Nat} {s t : Sg} {S : Nat} (hD : SgD p n kd at_ (A &&& fset kd 2 n) s t) (h : Std n (sdf A (fset kd 2 n)) t.2.1 S) : Std n (sdf A (fset kd 2 n)) s.2.1 S := by
  intro j
  rw [h j]
  obtain ⟨⟨k, hI⟩, -⟩ := hD
  cases hb : (sdf A (fset kd 2 n)).testBit j with
  | false => simp
  | true =>
    have : (A &&& fset kd 2 n).testBit j = false := by
      rw [sdf_tb, Bool.and_eq_true, Bool.not_eq_true'] at hb
      rw [Nat.testBit_and, hb.2, Bool.and_false]
    rw [(SgI.other hI j this).1]
theorem c_standingAt {p n t c : Nat} {kd sg pc wy : Nat → Nat} (ht : t ≤ 99) (hM : MDt h p n kd sg pc wy) (hc : c < 4096) (e7 : h 44 7 = nI c)
    (kk : ∀ (h2 : Hp) (u u2 : Sg), OnlyM [54, 55, 56] [23, 24, 25] h h2 → SgD p n kd (atT p sg pc wy t) (sdf (2 ^ n - 1) (fset kd 2 n)) (sg0 c) u → SgD p n kd (atT p sg pc wy t) ((2 ^ n - 1) &&& fset kd 2 n) u u2 → MS h2 u2 → SS p n kd (atT p sg pc wy t) c (2 ^ n - 1) < 64 → K (nI (SS p n kd (atT p sg pc wy t) c (2 ^ n - 1))) h2) : FI g mX8_standingAt [.ref 44, .int (nI t)] h K := by
  have hn := hM.2.1
  have h2n : 2 ^ n - 1 < 64 := p64 hn (by have := Nat.one_le_two_pow (n := n); omega)
  refine eX8_standingAt (vX8_standingAt_0 (c_layAts ht hM (fun h1 o1 v1 => ?_)))
  refine c_everybody hn (by rw [o1.2 13 (by decide)]; exact hM.2.2.2.2.1) ?_
  rw [o1.2 7 (by decide), e7]
  refine c_stops (MDt.mt (hM.keep o1 (by decide) (by decide)) v1) h2n hc (fun h2 S u u2 o2 hD hD2 hMS hSt hS => ?_)
  have es : S = SS p n kd (atT p sg pc wy t) c (2 ^ n - 1) := StR.ss ⟨fset kd 2 n, u, fset_fnt n kd, hD, hSt.back hD2⟩
  rw [es] at hS ⊢
  exact kk h2 u u2 ((o1.weaken (by decide) (by decide)).trans (o2.weaken (by decide) (by decide))) hD hD2 hMS hS
theorem c_stopsS {p n t c A : Nat} {kd sg pc wy : Nat → Nat} (hM : MT h p n kd (atT p sg pc wy t)) (hA : A < 2 ^ n) (hc : c < 4096)
    (kk : ∀ h2 : Hp, OnlyM [55, 56] [23, 24, 25] h h2 → SS p n kd (atT p sg pc wy t) c A < 64 → K (nI (SS p n kd (atT p sg pc wy t) c A)) h2) : FI g mX8_stops [.ref 44, .int (nI c), .int (nI A)] h K := by
  refine c_stops hM (p64 hM.2.1 hA) hc (fun h2 S u u2 o2 hD hD2 hMS hSt hS => ?_)
  have es : S = SS p n kd (atT p sg pc wy t) c A := StR.ss ⟨fset kd 2 n, u, fset_fnt n kd, hD, hSt.back hD2⟩
  rw [es] at hS ⊢
  exact kk h2 o2 hS
/-- a number of 0 to 99 -/
theorem min_of {a : Int32} (h : decide (0 ≤ a.toInt ∧ a.toInt ≤ 99) = true) : ∃ t, t ≤ 99 ∧ a = nI t := by
  have h := of_decide_eq_true h
  refine ⟨a.toInt.toNat, by omega, ?_⟩
  rw [i_eq, nI_toInt (by omega)]
  omega
theorem TdR.all {h : Hp} {p n c : Nat} {kd sg pc wy wt : Nat → Nat} (a : TdR h p n c kd sg pc wy wt) : 2 ^ n - 1 < 2 ^ n := by have := Nat.one_le_two_pow (n := n); omega
/-- the class's foretelling begins as told -/
theorem c_told {p n c : Nat} {kd sg pc wy wt : Nat → Nat} (a : TdR h p n c kd sg pc wy wt) (kk : ∀ h2 : Hp, Only [20, 21, 22] h h2 → TdR h2 p n c kd sg pc wy wt → XW h2 n pc wy → h2 20 5 = nI (2 ^ n - 1) → h2 20 6 = nI c → KV h2) : FV g mX2_asTold [.ref 20] h KV := by
  refine c_asTold a.1.2.2.1 a.2.1.2.2 (fun h2 o2 v1 v2 e5 e6 => kk h2 o2 (a.xo o2 (by decide)) (fun k hk => ?_) e5 (by rw [e6]; exact a.2.1.2.1))
  have hn := a.1.2.2.1
  have hk2 := a.2.2.2 k hk
  exact ⟨by rw [v1 k (by omega)]; exact hk2.2.2.1.1, hk2.2.2.1.2.2, by rw [v2 k (by omega)]; exact hk2.2.2.2.1.1, hk2.2.2.2.1.2.2⟩
theorem op_standing {a : Int32} (hS : Sim h) : FI g mX7_standing [.ref 0, .int a] h (fun r h1 => FI g mX8_standing [.ref 44, .int a] h1 (fun r2 h2 => r = r2 ∧ Sim h2)) := by
  obtain ⟨p, n, c, kd, sg, pc, wy, wt, hT, -⟩ := (Sim.iff h).mp hS
  refine eX7_standing (vX7_standing_0 (c_isMinute (br_b' (fun e1 => ?_) (fun e1 => ?_))))
  · exact eX8_standing (vX8_standing_0 (c_isTime (br_b (fun _ => ⟨rfl, hS⟩) (fun e2 => by rw [e1] at e2; cases e2))))
  · obtain ⟨t, ht, rfl⟩ := min_of e1
    refine c_told hT (fun h2 o2 hT2 hW2 e5 e6 => ?_)
    refine c_stoodAt ht hT2.xd hW2 hT.all hT.c4 e5 e6 (fun h3 u o3 x3 hD h64 => ?_)
    have o4 : Only scX h h3 := (o2.weaken (by decide)).trans (o3.weaken (by decide))
    refine eX8_standing (vX8_standing_0 (c_isTime (br_b (fun e2 => by rw [e1] at e2; cases e2) (fun _ => ?_))))
    have hT3 := hT.xo o4 (fun _ z => z)
    refine c_standingAt ht hT3.md hT.c4 hT3.2.2.1.2.1 (fun h4 u1 u2 o5 _ _ _ _ => ⟨rfl, (hS.x o4).m (o5.weaken (by decide) (by decide))⟩)
end Fr
