/-! fits -/
def ftb (ww : Nat → Nat) (bb : Nat → Bool) (S : Nat) : Nat → Bool
  | 0 => true
  | i + 1 => ftb ww bb S i && (S.testBit (ww i) == bb i)
theorem ftb_no {ww : Nat → Nat} {bb : Nat → Bool} {S : Nat} : ∀ {i m : Nat}, i ≤ m → ftb ww bb S i = false → ftb ww bb S m = false
  | i, 0, h, e => by rw [show i = 0 by omega] at e; exact e
  | i, m + 1, h, e => by
    by_cases hi : i = m + 1
    · rw [← hi]; exact e
    · unfold ftb
      rw [ftb_no (m := m) (by omega) e]; rfl
theorem a_bitb {S w : Nat} {b : Bool} (hS : S < 64) (hw : w < 6) : ((nI S >>> (nI w &&& 31)) &&& 1 = bi b) ↔ (S.testBit w == b) = true := by
  rw [a_bitv (by omega) (by omega)]
  cases S.testBit w <;> cases b <;> decide
abbrev f01 (ww : Nat → Nat) (bb : Nat → Bool) (m : Nat) (S : Nat → Nat) : Nat → Nat := fun t => if ftb ww bb (S t) m = true then 1 else 0
theorem f01_bt (ww : Nat → Nat) (bb : Nat → Bool) (m : Nat) (S : Nat → Nat) (t : Nat) : bt (f01 ww bb m S t) 0 = if ftb ww bb (S t) m = true then 1 else 0 := by
  unfold bt f01
  split <;> rfl
theorem BG.per {G : Nat → Prop} {p N : Nat} (hp : 0 < p) (hN : p ≤ N) (hG : ∀ t, G t → G (t % p)) : ∀ {o : Option Nat}, BG G (fun _ => 0) p o → BG G (fun _ => 0) N o
  | none, a => fun w hw gw => a _ (Nat.mod_lt _ hp) (hG w gw)
  | some v, a => ⟨by have := a.1; omega, a.2.1, fun w hw gw => by
    have := a.1
    rcases Nat.lt_or_ge w p with h | h
    · exact a.2.2 w h gw
    · exact Or.inr ⟨rfl, by omega⟩⟩
theorem tal_mono (S : Nat → Nat) (k a i : Nat) : tal S k a i ≤ tal S k a (i + 1) := Nat.le_add_right _ _
section Ft
variable {g : QG} {h : Hp} {K : Int32 → Hp → Prop} {KV : Hp → Prop}
/-- the sights of the class, of the reference -/
def SX (h : Hp) (m n : Nat) (ww : Nat → Nat) (bb : Nat → Bool) : Prop := m ≤ 6 ∧ n ≤ 6 ∧ h 41 0 = nI m ∧ ∀ i, i < m → ww i < n ∧ h 42 i = nI (ww i) ∧ h 43 i = bi (bb i)
def SM (h : Hp) (m n : Nat) (ww : Nat → Nat) (bb : Nat → Bool) : Prop := m ≤ 6 ∧ n ≤ 6 ∧ h 44 30 = nI m ∧ ∀ i, i < m → ww i < n ∧ h 60 (2 * i) = nI (ww i) ∧ h 60 (2 * i + 1) = bi (bb i)
theorem SnR.xm {n : Nat} (hn : n ≤ 6) (a : SnR h n) : ∃ (m : Nat) (ww : Nat → Nat) (bb : Nat → Bool), SX h m n ww bb ∧ SM h m n ww bb := by
  obtain ⟨m, hm, e1, e2, e3⟩ := a
  refine ⟨m, fun i => (h 42 i).toNatClampNeg, fun i => decide (h 43 i = 1), ⟨hm, hn, e1, fun i hi => ?_⟩, ⟨hm, hn, e2, fun i hi => ?_⟩⟩
  · obtain ⟨⟨w, hw, w1, w2⟩, b, b1, b2⟩ := e3 i hi
    show (h 42 i).toNatClampNeg < n ∧ h 42 i = nI (h 42 i).toNatClampNeg ∧ h 43 i = bi (decide (h 43 i = 1))
    rw [w1, ix_nI (by omega), b1]
    refine ⟨hw, rfl, ?_⟩
    cases b <;> rfl
  · obtain ⟨⟨w, hw, w1, w2⟩, b, b1, b2⟩ := e3 i hi
    show (h 42 i).toNatClampNeg < n ∧ h 60 (2 * i) = nI (h 42 i).toNatClampNeg ∧ h 60 (2 * i + 1) = bi (decide (h 43 i = 1))
    rw [w1, ix_nI (by omega), b1, w2, b2]
    refine ⟨hw, rfl, ?_⟩
    cases b <;> rfl
theorem l_fit {m n S : Nat} {ww : Nat → Nat} {bb : Nat → Bool} (hX : SX h m n ww bb) (hS : S < 64) (hK : K (bi (ftb ww bb S m)) h) : ∀ (d i : Nat), m - i = d → i ≤ m → ftb ww bb S i = true → wX4_fit_2 g K h (nI S) (nI i) := by
  obtain ⟨hm, hn, e, hr⟩ := hX
  intro d
  induction d with
  | zero =>
    intro i hd hi hf
    have ei : i = m := by omega
    subst ei
    rw [hf] at hK
    exact vX4_fit_2 ⟨fun _ => hK, fun z => absurd (by rw [e]; exact nI_le (Nat.le_refl _) (by omega)) z⟩
  | succ d ih =>
    intro i hd hi hf
    obtain ⟨r1, r2, r3⟩ := hr i (by omega)
    refine vX4_fit_2 ⟨fun z => ?_, fun _ => ⟨vp_in_nI (by omega) (by decide), vp_in_nI (by omega) (by decide), ?_⟩⟩
    · rw [e, nI_leI (by omega) (by omega)] at z; omega
    · rw [ix_nI (by omega), r2, r3, a_bitb hS (by omega), nI_1]
      refine ⟨fun z => ih (i + 1) (by omega) (by omega) (by unfold ftb; rw [hf, z]; rfl), fun z => ?_⟩
      rw [ftb_no (i := i + 1) (m := m) (by omega) (by unfold ftb; rw [hf, Bool.true_and]; exact Bool.not_eq_true _ ▸ z)] at hK
      exact hK
theorem l_xfits {p n c m : Nat} {kd sg pc wy wt ww : Nat → Nat} {bb : Nat → Bool} {h0 : Hp} (hT0 : TdR h0 p n c kd sg pc wy wt) (hX0 : SX h0 m n ww bb)
    (kk : ∀ (h2 : Hp) (o : Option Nat), Only scX h0 h2 → BG (fun t => ftb ww bb (sT p n kd sg pc wy c (2 ^ n - 1) t) m = true) (fun _ => 0) p o → h2 24 3 = nI (sm (fun t => mlk p t 0 99 * bt (f01 ww bb m (sT p n kd sg pc wy c (2 ^ n - 1)) t) 0) p) → h2 24 4 = oI o → KV h2) : ∀ (d i : Nat) (h : Hp) (o : Option Nat), p - i = d → i ≤ p → Only scX h0 h → XW h n pc wy → h 20 5 = nI (2 ^ n - 1) → h 20 6 = nI c → BG (fun t => ftb ww bb (sT p n kd sg pc wy c (2 ^ n - 1) t) m = true) (fun _ => 0) i o → h 24 3 = nI (sm (fun t => mlk p t 0 99 * bt (f01 ww bb m (sT p n kd sg pc wy c (2 ^ n - 1)) t) 0) i) → h 24 4 = oI o → wX1_findFits_19 g KV h (nI i) := by
  have hn := hT0.1.2.2.1
  have hp := hT0.1.2.1
  have hp0 := hT0.1.1
  intro d
  induction d with
  | zero =>
    intro i h o hd hi ho hW e5 e6 hb e3 e4
    have ei : i = p := by omega
    subst ei
    refine vX1_findFits_19 ⟨fun _ => kk h o ho hb e3 e4, fun z => absurd ?_ z⟩
    rw [ho 1 (by decide), hT0.2.1.1]
    exact nI_le (Nat.le_refl _) (by omega)
  | succ d ih =>
    intro i h o hd hi ho hW e5 e6 hb e3 e4
    have hT := hT0.xo ho (fun _ z => z)
    refine vX1_findFits_19 ⟨fun z => ?_, fun _ => ?_⟩
    · rw [hT.2.1.1, nI_leI (by omega) (by omega)] at z; omega
    · refine c_stoodAt (by omega) hT.xd hW hT.all hT.c4 e5 e6 (fun h2 u o2 _ _ h64 => ?_)
      have o02 : Only scX h0 h2 := ho.trans (o2.weaken (by decide))
      have hX2 : SX h2 m n ww bb := by
        unfold SX
        rw [o02 41 (by decide), o02 42 (by decide), o02 43 (by decide)]
        exact hX0
      have hW2 : XW h2 n pc wy := hW.keep o2 (by decide)
      have e52 : h2 20 5 = nI (2 ^ n - 1) := by rw [o2 20 (by decide)]; exact e5
      have e62 : h2 20 6 = nI c := by rw [o2 20 (by decide)]; exact e6
      have e24 : h2 24 = h 24 := o2 24 (by decide)
      refine eX4_fit (vX4_fit_0 (l_fit (g := g) hX2 h64 ?_ m 0 rfl (Nat.zero_le _) rfl))
      refine br_b (fun b => ?_) (fun b => ?_)
      · rw [nI_1]
        refine ih (i + 1) h2 o (by omega) (by omega) o02 hW2 e52 e62 (hb.no (fun q => by rw [show ftb ww bb (sT p n kd sg pc wy c (2 ^ n - 1) i) m = false from b] at q; cases q)) ?_ (by rw [e24]; exact e4)
        rw [e24, e3]
        show nI (sm _ i) = nI (sm _ i + mlk p i 0 99 * _)
        rw [f01_bt, if_neg (by rw [show ftb ww bb (sT p n kd sg pc wy c (2 ^ n - 1) i) m = false from b]; decide), Nat.mul_zero, Nat.add_zero]
      · refine c_minutesLike (a := 0) (b := 99) hp (by omega) (by omega) (by decide) (by decide) (by rw [o2 1 (by decide)]; exact hT.2.1.1) ?_
        rw [e24, e3, e4, nI_add, nI_1]
        have e3' : nI (sm (fun t => mlk p t 0 99 * bt (f01 ww bb m (sT p n kd sg pc wy c (2 ^ n - 1)) t) 0) i + mlk p i 0 99) = nI (sm (fun t => mlk p t 0 99 * bt (f01 ww bb m (sT p n kd sg pc wy c (2 ^ n - 1)) t) 0) (i + 1)) := by
          show _ = nI (sm _ i + mlk p i 0 99 * _)
          rw [f01_bt, if_pos b, Nat.mul_one]
        have o03 : ∀ v w : Int32, Only scX h0 (q_up (q_up h2 24 3 v) 24 4 w) := fun v w => (o02.trans (Only.up (by decide))).trans (Only.up (by decide))
        cases o with
        | none =>
          refine ⟨fun q => absurd rfl q, fun _ => ?_⟩
          exact ih (i + 1) _ (some i) (by omega) (by omega) (o03 _ _) hW2 e52 e62 (hb.new b (fun v q => by cases q)) e3' rfl
        | some v =>
          have hv := hb.1
          refine ⟨fun _ => ?_, fun q => absurd q (a_m1 _ (by omega))⟩
          exact ih (i + 1) _ (some v) (by omega) (by omega) (o03 _ _) hW2 e52 e62 (hb.keep (Nat.le_refl _)) e3' rfl
theorem l_mfits {p n c m : Nat} {q : Int32} {kd sg pc wy ww : Nat → Nat} {bb : Nat → Bool} {h0 : Hp} (hM0 : MDt h0 p n kd sg pc wy) (hc : c < 4096) (e70 : h0 44 7 = nI c) (hX0 : SM h0 m n ww bb)
    (kk : ∀ (h2 : Hp) (o : Option Nat), OnlyM [54, 55, 56] [23, 24, 25] h0 h2 → BG (fun t => ftb ww bb (sT p n kd sg pc wy c (2 ^ n - 1) t) m = true) (fun _ => 0) 100 o → K (if q = 0 then nI (tal (f01 ww bb m (sT p n kd sg pc wy c (2 ^ n - 1))) 0 0 100) else oI o) h2) : ∀ (d i : Nat) (h : Hp) (o : Option Nat), 100 - i = d → i ≤ 100 → OnlyM [54, 55, 56] [23, 24, 25] h0 h → BG (fun t => ftb ww bb (sT p n kd sg pc wy c (2 ^ n - 1) t) m = true) (fun _ => 0) i o → (o = none ↔ tal (f01 ww bb m (sT p n kd sg pc wy c (2 ^ n - 1))) 0 0 i = 0) → wX8_fits_20 g K h q (nI (tal (f01 ww bb m (sT p n kd sg pc wy c (2 ^ n - 1))) 0 0 i)) (oI o) (nI i) := by
  have hn := hM0.2.1
  intro d
  induction d with
  | zero =>
    intro i h o hd hi ho hb hz
    have ei : i = 100 := by omega
    subst ei
    exact vX8_fits_20 ⟨fun _ => br_v' (P := fun v => K v h) (kk h o ho hb), fun z => absurd (nI_le (a := 100) (Nat.le_refl _) (by decide)) z⟩
  | succ d ih =>
    intro i h o hd hi ho hb hz
    refine vX8_fits_20 ⟨fun z => ?_, fun _ => ?_⟩
    · rw [show (100 : Int32) = nI 100 from rfl, nI_leI (by decide) (by omega)] at z; omega
    · refine c_standingAt (by omega) (hM0.keep ho (by decide) (by decide)) hc (by rw [ho.2 7 (by decide)]; exact e70) (fun h2 u u2 o2 _ _ _ h64 => ?_)
      have o02 := ho.trans o2
      obtain ⟨hm, -, e30, hr⟩ := hX0
      have e302 : h2 44 30 = nI m := by rw [o02.2 30 (by decide)]; exact e30
      have htl := tal_le (f01 ww bb m (sT p n kd sg pc wy c (2 ^ n - 1))) 0 0 i
      have inner : ∀ (d2 j : Nat), m - j = d2 → j ≤ m → wX8_fits_41 g K h2 q (nI (tal (f01 ww bb m (sT p n kd sg pc wy c (2 ^ n - 1))) 0 0 i)) (oI o) (nI i) (nI (sT p n kd sg pc wy c (2 ^ n - 1) i)) (bi (ftb ww bb (sT p n kd sg pc wy c (2 ^ n - 1) i) j)) (nI j) := by
        intro d2
        induction d2 with
        | zero =>
          intro j hj1 hj2
          have ej : j = m := by omega
          subst ej
          have tS : tal (f01 ww bb j (sT p n kd sg pc wy c (2 ^ n - 1))) 0 0 (i + 1) = tal (f01 ww bb j (sT p n kd sg pc wy c (2 ^ n - 1))) 0 0 i + if ftb ww bb (sT p n kd sg pc wy c (2 ^ n - 1) i) j = true then 1 else 0 := by
            show _ + bt (f01 ww bb j (sT p n kd sg pc wy c (2 ^ n - 1)) (0 + i)) 0 = _
            rw [Nat.zero_add, f01_bt]
          refine vX8_fits_41 ⟨fun _ => br_b (fun b => ?_) (fun b => ?_), fun z => absurd (by rw [e302]; exact nI_le (Nat.le_refl _) (by omega)) z⟩
          · refine vX8_fits_111 ⟨fun _ => ?_, fun z => absurd (by rw [b]; rfl) z⟩
            have nx := ih (i + 1) h2 o (by omega) (by omega) o02 (hb.no (fun y => by rw [b] at y; cases y))
            rw [if_neg (by rw [b]; decide), Nat.add_zero] at tS
            rw [tS] at nx
            rw [Int32.add_zero, nI_1]
            exact nx hz
          · have s111 : ∀ o2 : Option Nat, ¬ o2 = none → BG (fun t => ftb ww bb (sT p n kd sg pc wy c (2 ^ n - 1) t) j = true) (fun _ => 0) (i + 1) o2 → wX8_fits_111 g K h2 q (nI (tal (f01 ww bb j (sT p n kd sg pc wy c (2 ^ n - 1))) 0 0 i)) (nI i) (bi (ftb ww bb (sT p n kd sg pc wy c (2 ^ n - 1) i) j)) (oI o2) := by
              intro o2 hno hb2
              refine vX8_fits_111 ⟨fun z => absurd z (by rw [b]; decide), fun _ => ?_⟩
              have nx := ih (i + 1) h2 o2 (by omega) (by omega) o02 hb2
              rw [if_pos b] at tS
              rw [tS] at nx
              rw [nI_1, nI_1]
              exact nx ⟨fun y => absurd y hno, fun y => by omega⟩
            rw [nI_eq0 (by omega)]
            cases o with
            | none =>
              refine ⟨fun z => absurd (hz.mp rfl) z, fun _ => s111 (some i) (fun y => by cases y) (hb.new b (fun v y => by cases y))⟩
            | some v =>
              refine ⟨fun _ => s111 (some v) (fun y => by cases y) (hb.keep (Nat.le_refl _)), fun z => absurd (hz.mpr z) (fun y => by cases y)⟩
        | succ d2 ih2 =>
          intro j hj1 hj2
          obtain ⟨r1, r2, r3⟩ := hr j (by omega)
          refine vX8_fits_41 ⟨fun z => ?_, fun _ => br_b (fun b => ?_) (fun b => ?_)⟩
          · rw [e302, nI_leI (by omega) (by omega)] at z; omega
          · have nx := ih2 (j + 1) (by omega) (by omega)
            rw [ftb_no (i := j) (m := j + 1) (by omega) b] at nx
            rw [nI_1]
            exact nx
          · have e2j : (2 : Int32) * nI j = nI (2 * j) := (Int32.ofNat_mul 2 j).symm
            rw [e2j, nI_1, nI_1, ix_nI (by omega), ix_nI (by omega)]
            refine ⟨vp_in_nI (by omega) (by decide), vp_in_nI (by omega) (by decide), ?_⟩
            rw [o02.1 60 (by decide) (by decide), r2, r3, a_bitb h64 (by omega)]
            have nx := ih2 (j + 1) (by omega) (by omega)
            unfold ftb at nx
            rw [b, Bool.true_and] at nx
            refine ⟨fun z => ?_, fun z => ?_⟩
            · rw [Bool.not_eq_true] at z
              rw [show ((sT p n kd sg pc wy c (2 ^ n - 1) i).testBit (ww j) == bb j) = false from z] at nx
              exact nx
            · rw [show ((sT p n kd sg pc wy c (2 ^ n - 1) i).testBit (ww j) == bb j) = true from z] at nx
              exact nx
      exact inner m 0 rfl (Nat.zero_le _)
theorem op_fits {a : Int32} (hS : Sim h) : FI g mX7_fits [.ref 0, .int a] h (fun r h1 => FI g mX8_fits [.ref 44, .int a] h1 (fun r2 h2 => r = r2 ∧ Sim h2)) := by
  obtain ⟨p, n, ch, kd, sg, pc, wy, wt, hT, -, -, -, -, hN⟩ := (Sim.iff h).mp hS
  have hn := hT.1.2.2.1
  have hp := hT.1.2.1
  have hp0 := hT.1.1
  refine eX7_fits (vX7_fits_0 (c_isEither (br_b' (fun e1 => ?_) (fun e1 => ?_))))
  · exact eX8_fits (vX8_fits_0 (c_inE (br_b' (fun _ => ⟨rfl, hS⟩) (fun z => by rw [e1] at z; cases z))))
  · obtain ⟨m, ww, bb, hX, hM⟩ := hN.xm hn
    refine eX1_findFits (vX1_findFits_0 (c_told hT (fun h2 o2 hT2 hW2 e5 e6 => ?_)))
    refine l_xfits (g := g) (h0 := h) hT hX (fun h3 o o3 hb f3 f4 => ?_) p 0 _ none rfl (Nat.zero_le _) (((o2.weaken (by decide)).trans (Only.up (by decide))).trans (Only.up (by decide))) hW2 e5 e6 (fun w hw => by omega) rfl rfl
    have hT3 := hT.xo o3 (fun _ z => z)
    have hM3 : SM h3 m n ww bb := by
      unfold SM
      rw [o3 44 (by decide), o3 60 (by decide)]
      exact hM
    have eT : tal (f01 ww bb m (sT p n kd sg pc wy ch (2 ^ n - 1))) 0 0 100 = sm (fun t => mlk p t 0 99 * bt (f01 ww bb m (sT p n kd sg pc wy ch (2 ^ n - 1)) t) 0) p := tal_mlk (a := 0) (b := 99) (by omega) (by omega) (fun t => by unfold f01; rw [sT_per]) (by decide) (by decide)
    have mside : ∀ {r : Int32}, (r = if a = 0 then nI (tal (f01 ww bb m (sT p n kd sg pc wy ch (2 ^ n - 1))) 0 0 100) else oI o) → FI g mX8_fits [.ref 44, .int a] h3 (fun r2 h2 => r = r2 ∧ Sim h2) := by
      intro r hr
      refine eX8_fits (vX8_fits_0 (c_inE (br_b' (fun z => by rw [e1] at z; cases z) (fun _ => ?_))))
      refine l_mfits (g := g) (h0 := h3) hT3.md hT.c4 hT3.2.2.1.2.1 hM3 (fun h4 ob o4 hb4 => ?_) 100 0 h3 none rfl (by decide) (OnlyM.rf _) (fun w hw => by omega) ⟨fun _ => rfl, fun _ => rfl⟩
      have hb5 := hb.per (N := 100) (by omega) (by omega) (fun t ht => by rw [sT_per]; exact ht)
      rw [hb4.uniq hb5]
      exact ⟨hr, (hS.x o3).m (o4.weaken (by decide) (by decide))⟩
    refine ⟨fun z => ?_, fun z => ?_⟩
    · rw [f4]; exact mside (by rw [if_neg z])
    · rw [f3]; exact mside (by rw [if_pos z, eT])
end Ft
