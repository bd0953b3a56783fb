/-! still -/
def bpc (s : Nat) : Nat → Nat := fun j => s / 2 ^ j % 2
theorem bpc_le (s j : Nat) : bpc s j ≤ 3 := by
  have : s / 2 ^ j % 2 < 2 := Nat.mod_lt _ (by decide)
  unfold bpc; omega
/-- how often k stands when the set s walks -/
noncomputable abbrev tT (p n : Nat) (kd sg wy : Nat → Nat) (c a m : Nat) : Nat → Nat → Nat := fun s k => tal (sT p n kd sg (bpc s) wy c (2 ^ n - 1)) k a m
/-- nobody below i would change -/
def stl (T : Nat → Nat → Nat) (s : Nat) : Nat → Bool
  | 0 => true
  | i + 1 => stl T s i && !(decide (T (s ^^^ 2 ^ i) i < T s i))
theorem stl_no {T : Nat → Nat → Nat} {s : Nat} : ∀ {i m : Nat}, i ≤ m → stl T s i = false → stl T s m = false
  | i, 0, h, e => by rw [show i = 0 by omega] at e; exact e
  | i, m + 1, h, e => by
    by_cases hi : i = m + 1
    · rw [← hi]; exact e
    · unfold stl
      rw [stl_no (m := m) (by omega) e]; rfl
abbrev s01 (T : Nat → Nat → Nat) (n : Nat) : Nat → Nat := fun s => if stl T s n = true then 1 else 0
theorem s01_bt (T : Nat → Nat → Nat) (n s : Nat) : bt (s01 T n s) 0 = if stl T s n = true then 1 else 0 := by
  unfold bt s01
  split <;> rfl
/-- the rows of cell k tell T for the sets below N -/
def RwS (h : Hp) (k n N : Nat) (T : Nat → Nat → Nat) : Prop := ∀ s, s < N → ∀ j, j < n → h k (6 * s + j) = nI (T s j)
theorem x_flip {s j n : Nat} (hs : s < 2 ^ n) (hj : j < n) : s ^^^ 2 ^ j < 2 ^ n := Nat.xor_lt_two_pow hs (Nat.pow_lt_pow_right (by decide) hj)
theorem nI_mul (a b : Nat) : nI a * nI b = nI (a * b) := (Int32.ofNat_mul a b).symm
section Sl
variable {g : QG} {h : Hp} {K : Int32 → Hp → Prop} {KV : Hp → Prop}
theorem l_nobody {n s : Nat} {T : Nat → Nat → Nat} (hn : n ≤ 6) (hs : s < 2 ^ n) (e : h 1 2 = nI n) (hR : RwS h 25 n (2 ^ n) T) (hT : ∀ s j, T s j ≤ 100) (hK : K (bi (stl T s n)) h) : ∀ (d i : Nat), n - i = d → i ≤ n → stl T s i = true → wX1_nobodyWouldChange_2 g K h (nI s) (nI i) := by
  have hs6 := p64 hn hs
  intro d
  induction d with
  | zero =>
    intro i hd hi hf
    have ei : i = n := by omega
    subst ei
    rw [hf] at hK
    exact vX1_nobodyWouldChange_2 ⟨fun _ => hK, fun z => absurd (by rw [e]; exact nI_le (Nat.le_refl _) (by omega)) z⟩
  | succ d ih =>
    intro i hd hi hf
    have hf2 : s ^^^ 2 ^ i < 2 ^ n := x_flip hs (by omega)
    have hf6 := p64 hn hf2
    have h2i : 2 ^ i < 64 := p64 hn (Nat.pow_lt_pow_right (by decide) (by omega))
    have t1 := hT s i
    have t2 := hT (s ^^^ 2 ^ i) i
    refine vX1_nobodyWouldChange_2 ⟨fun z => ?_, fun _ => ?_⟩
    · rw [e, nI_leI (by omega) (by omega)] at z; omega
    · rw [a_shl1 (by omega), a_xor (by omega) (by omega), show (6 : Int32) = nI 6 from rfl, nI_mul, nI_mul, nI_add, nI_add, ix_nI (by omega), ix_nI (by omega), Nat.mul_comm _ 6, Nat.mul_comm s 6, hR _ hf2 i (by omega), hR _ hs i (by omega), nI_leI (by omega) (by omega), nI_1]
      refine ⟨vp_in_nI (by omega) (by decide), vp_in_nI (by omega) (by decide), fun z => ?_, fun z => ?_⟩
      · refine ih (i + 1) (by omega) (by omega) ?_
        unfold stl
        rw [hf, decide_eq_false (by omega)]; rfl
      · rw [stl_no (i := i + 1) (m := n) (by omega) (by unfold stl; rw [hf, decide_eq_true (by omega)]; rfl)] at hK
        exact hK
theorem l_xwalk {n s : Nat} {a b : Int32} {h0 : Hp} (hn : n ≤ 6) (hs : s < 64) (e : h0 1 2 = nI n) (kk : ∀ h2 : Hp, Only [21] h0 h2 → (∀ j, j < n → h2 21 j = nI (bpc s j)) → wX1_findStill_23 g KV h2 a b (nI s) (nI n)) : ∀ (d i : Nat) (h : Hp), n - i = d → i ≤ n → Only [21] h0 h → (∀ j, j < i → h 21 j = nI (bpc s j)) → wX1_findStill_23 g KV h a b (nI s) (nI i) := by
  intro d
  induction d with
  | zero =>
    intro i h hd hi ho hv
    have ei : i = n := by omega
    subst ei
    exact kk h ho hv
  | succ d ih =>
    intro i h hd hi ho hv
    refine vX1_findStill_23 ⟨fun z => ?_, fun _ => ⟨vp_in_nI (by omega) (by decide), ?_⟩⟩
    · rw [ho 1 (by decide), e, nI_leI (by omega) (by omega)] at z; omega
    · rw [a_bit (by omega) (by omega), ix_nI (by omega), nI_1]
      refine ih (i + 1) _ (by omega) (by omega) (ho.trans (Only.up (by decide))) (fun j hj => ?_)
      by_cases ej : j = i
      · subst ej; rw [up_at]; rfl
      · rw [up_row _ _ _ _ ej]; exact hv j (by omega)
theorem l_xrows {p n c a b : Nat} {kd sg pc wy wt : Nat → Nat} {h0 : Hp} (hab : a ≤ b) (hb : b ≤ 99) (hT0 : TdR h0 p n c kd sg pc wy wt)
    (kk : ∀ h2 : Hp, Only scX h0 h2 → RwS h2 25 n (2 ^ n) (tT p n kd sg wy c a (b + 1 - a)) → wX1_findStill_105 g KV (q_up (q_up h2 24 3 0) 24 4 (-1)) 0) : ∀ (d i : Nat) (h : Hp), 2 ^ n - i = d → i ≤ 2 ^ n → Only scX h0 h → (∀ j, j < n → h 22 j = nI (wy j)) → h 20 5 = nI (2 ^ n - 1) → h 20 6 = nI c → RwS h 25 n i (tT p n kd sg wy c a (b + 1 - a)) → wX1_findStill_9 g KV h (nI a) (nI b) (nI i) := by
  have hn := hT0.1.2.2.1
  have h1n := Nat.one_le_two_pow (n := n)
  have h2n : 2 ^ n - 1 < 64 := p64 hn (by omega)
  intro d
  induction d with
  | zero =>
    intro i h hd hi ho hw e5 e6 hR
    have ei : i = 2 ^ n := by omega
    subst ei
    have hT := hT0.xo ho (fun _ z => z)
    refine vX1_findStill_9 (c_everyone hn hT.2.1.2.2 ⟨fun _ => kk h ho hR, fun z => ?_⟩)
    rw [nI_ltI (by omega) (by omega)] at z; omega
  | succ d ih =>
    intro i h hd hi ho hw e5 e6 hR
    have hT := hT0.xo ho (fun _ z => z)
    have hi6 : i < 64 := by omega
    refine vX1_findStill_9 (c_everyone hn hT.2.1.2.2 ⟨fun z => ?_, fun z => ?_⟩)
    · rw [nI_ltI (by omega) (by omega)] at z; omega
    · refine l_xwalk (g := g) hn hi6 hT.2.1.2.2 (fun h2 o2 v2 => ?_) n 0 h rfl (Nat.zero_le _) (Only.rf _) (fun j hj => by omega)
      have o02 : Only scX h0 h2 := ho.trans (o2.weaken (by decide))
      have hT2 := hT0.xo o02 (fun _ z => z)
      refine vX1_findStill_23 ⟨fun _ => ?_, fun z => absurd (by rw [hT2.2.1.2.2]; exact nI_le (Nat.le_refl _) (by omega)) z⟩
      have hW2 : XW h2 n (bpc i) wy := fun j hj => ⟨v2 j hj, bpc_le i j, by rw [o2 22 (by decide)]; exact hw j hj, (hT0.2.2.2 j hj).2.2.2.1.2.2⟩
      refine c_tally hab hb hT0.all hT0.c4 hT2.xd hW2 (by rw [o2 20 (by decide)]; exact e5) (by rw [o2 20 (by decide)]; exact e6) (fun h3 o3 v3 => ?_)
      have cl : (nI 6).toNatClampNeg = 6 := ix_nI (by decide)
      have cl0 : (0 : Int32).toNatClampNeg = 0 := rfl
      have cl1 : (nI (i * 6)).toNatClampNeg = i * 6 := ix_nI (by omega)
      rw [show (6 : Int32) = nI 6 from rfl, nI_mul, nI_1, cl1]
      refine ⟨⟨by decide, nI_pos (by omega), by decide, by rw [cl, cl0]; decide, by rw [cl]; omega⟩, ?_⟩
      have o3' : Only scX h2 h3 := o3.weaken (by decide)
      refine ih (i + 1) _ (by omega) (by omega) ((o02.trans o3').trans (Only.upA (by decide))) (fun j hj => ?_) ?_ ?_ (fun s hs j hj => ?_)
      · rw [q_upA_ne (by decide), o3 22 (by decide), o2 22 (by decide)]; exact hw j hj
      · rw [q_upA_ne (by decide), o3 20 (by decide), o2 20 (by decide)]; exact e5
      · rw [q_upA_ne (by decide), o3 20 (by decide), o2 20 (by decide)]; exact e6
      · rw [q_upA_at]
        unfold va_cpy
        by_cases es : s = i
        · subst es
          rw [if_pos (by omega), show 0 + (6 * s + j - s * 6) = j by omega]
          exact v3 j hj
        · rw [if_neg (by omega), o3 25 (by decide), o2 25 (by decide)]
          exact hR s (by omega) j hj
theorem l_xstill {p n c a m : Nat} {kd sg pc wy wt : Nat → Nat} {h0 : Hp} {T : Nat → Nat → Nat} (hT0 : TdR h0 p n c kd sg pc wy wt) (hT100 : ∀ s j, T s j ≤ 100) (hR0 : RwS h0 25 n (2 ^ n) T)
    (kk : ∀ (h2 : Hp) (o : Option Nat), Only [24] h0 h2 → BG (fun s => stl T s n = true) (fun _ => 0) (2 ^ n) o → h2 24 3 = nI (tal (s01 T n) 0 0 (2 ^ n)) → h2 24 4 = oI o → KV h2) : ∀ (d i : Nat) (h : Hp) (o : Option Nat), 2 ^ n - i = d → i ≤ 2 ^ n → Only [24] h0 h → BG (fun s => stl T s n = true) (fun _ => 0) i o → h 24 3 = nI (tal (s01 T n) 0 0 i) → h 24 4 = oI o → wX1_findStill_105 g KV h (nI i) := by
  have hn := hT0.1.2.2.1
  have h1n := Nat.one_le_two_pow (n := n)
  have h2n : 2 ^ n - 1 < 64 := p64 hn (by omega)
  intro d
  induction d with
  | zero =>
    intro i h o hd hi ho hb e3 e4
    have ei : i = 2 ^ n := by omega
    subst ei
    refine vX1_findStill_105 (c_everyone hn (by rw [ho 1 (by decide)]; exact hT0.2.1.2.2) ⟨fun _ => kk h o ho hb e3 e4, fun z => ?_⟩)
    rw [nI_ltI (by omega) (by omega)] at z; omega
  | succ d ih =>
    intro i h o hd hi ho hb e3 e4
    have e12 : h 1 2 = nI n := by rw [ho 1 (by decide)]; exact hT0.2.1.2.2
    have tS : tal (s01 T n) 0 0 (i + 1) = tal (s01 T n) 0 0 i + if stl T i n = true then 1 else 0 := by
      show _ + bt (s01 T n (0 + i)) 0 = _
      rw [Nat.zero_add, s01_bt]
    refine vX1_findStill_105 (c_everyone hn e12 ⟨fun z => ?_, fun z => ?_⟩)
    · rw [nI_ltI (by omega) (by omega)] at z; omega
    · refine eX1_nobodyWouldChange (vX1_nobodyWouldChange_0 (l_nobody (g := g) (T := T) hn (by omega) e12 (by unfold RwS; rw [ho 25 (by decide)]; exact hR0) hT100 ?_ n 0 rfl (Nat.zero_le _) rfl))
      refine br_b (fun b => ?_) (fun b => ?_)
      · rw [nI_1]
        rw [if_neg (by rw [b]; decide), Nat.add_zero] at tS
        exact ih (i + 1) h o (by omega) (by omega) ho (hb.no (fun q => by rw [b] at q; cases q)) (by rw [tS]; exact e3) e4
      · rw [if_pos b] at tS
        rw [e3, e4, nI_1, nI_1]
        cases o with
        | none =>
          refine ⟨fun q => absurd rfl q, fun _ => ?_⟩
          exact ih (i + 1) _ (some i) (by omega) (by omega) ((ho.trans (Only.up (by decide))).trans (Only.up (by decide))) (hb.new b (fun v q => by cases q)) (by rw [tS]; rfl) rfl
        | some v =>
          have hv := hb.1
          refine ⟨fun _ => ?_, fun q => absurd q (a_m1 _ (by omega))⟩
          exact ih (i + 1) _ (some v) (by omega) (by omega) ((ho.trans (Only.up (by decide))).trans (Only.up (by decide))) (hb.keep (Nat.le_refl _)) (by rw [tS]; rfl) rfl
/-- the reference -/
theorem l_isStill {n s : Nat} {T : Nat → Nat → Nat} (hn : n ≤ 6) (hs : s < 2 ^ n) (e : h 44 13 = nI n) (hR : RwS h 58 n (2 ^ n) T) (hT : ∀ s j, T s j ≤ 100) (hK : K (bi (stl T s n)) h) : ∀ (d i : Nat), n - i = d → i ≤ n → wX8_isStill_4 g K h (nI s) (bi (stl T s i)) (nI i) := by
  have hs6 := p64 hn hs
  intro d
  induction d with
  | zero =>
    intro i hd hi
    have ei : i = n := by omega
    subst ei
    exact vX8_isStill_4 ⟨fun _ => ⟨bi_bool _, hK⟩, fun z => absurd (by rw [e]; exact nI_le (Nat.le_refl _) (by omega)) z⟩
  | succ d ih =>
    intro i hd hi
    have hf2 : s ^^^ 2 ^ i < 2 ^ n := x_flip hs (by omega)
    have hf6 := p64 hn hf2
    have h2i : 2 ^ i < 64 := p64 hn (Nat.pow_lt_pow_right (by decide) (by omega))
    have t1 := hT s i
    have t2 := hT (s ^^^ 2 ^ i) i
    have nx := ih (i + 1) (by omega) (by omega)
    refine vX8_isStill_4 ⟨fun z => ?_, fun _ => br_b (fun b => ?_) (fun b => ?_)⟩
    · rw [e, nI_leI (by omega) (by omega)] at z; omega
    · rw [stl_no (i := i) (m := i + 1) (by omega) b] at nx
      rw [nI_1]; exact nx
    · rw [a_shl1 (by omega), a_xor (by omega) (by omega), show (6 : Int32) = nI 6 from rfl, nI_mul, nI_mul, nI_add, nI_add, ix_nI (by omega), ix_nI (by omega), hR _ hf2 i (by omega), hR _ hs i (by omega), nI_ltI (by omega) (by omega), nI_1]
      unfold stl at nx
      rw [b, Bool.true_and] at nx
      refine ⟨vp_in_nI (by omega) (by decide), vp_in_nI (by omega) (by decide), fun z => ?_, fun z => ?_⟩
      · rw [decide_eq_true z] at nx; exact nx
      · rw [decide_eq_false z] at nx; exact nx
theorem c_isStill {n s : Nat} {T : Nat → Nat → Nat} (hn : n ≤ 6) (hs : s < 2 ^ n) (e : h 44 13 = nI n) (hR : RwS h 58 n (2 ^ n) T) (hT : ∀ s j, T s j ≤ 100) (hK : K (bi (stl T s n)) h) : FI g mX8_isStill [.ref 44, .int (nI s)] h K := eX8_isStill (vX8_isStill_0 (l_isStill (g := g) hn hs e hR hT hK n 0 rfl (Nat.zero_le _)))
theorem l_lay64 {p n c s a m i S : Nat} {b : Int32} {kd sg wy : Nat → Nat} {h0 : Hp} (hn : n ≤ 6) (hs : s < 64) (hS : S < 64) (e : h0 44 13 = nI n) (eS : sT p n kd sg (bpc s) wy c (2 ^ n - 1) (a + i) = S) (e0 : ∀ j, j < n → h0 58 (6 * s + j) = nI (tal (sT p n kd sg (bpc s) wy c (2 ^ n - 1)) j a i))
    (kk : ∀ h2 : Hp, OnlyM [58] [] h0 h2 → (∀ q, (q < 6 * s ∨ 6 * s + 6 ≤ q) → h2 58 q = h0 58 q) → (∀ j, j < n → h2 58 (6 * s + j) = nI (tal (sT p n kd sg (bpc s) wy c (2 ^ n - 1)) j a (i + 1))) → wX8_layStands_47 g KV h2 (nI s) b (nI (a + i) + 1)) : ∀ (d k : Nat) (h : Hp), n - k = d → k ≤ n → OnlyM [58] [] h0 h → (∀ q, (q < 6 * s ∨ 6 * s + 6 ≤ q) → h 58 q = h0 58 q) → (∀ j, j < k → h 58 (6 * s + j) = nI (tal (sT p n kd sg (bpc s) wy c (2 ^ n - 1)) j a (i + 1))) → (∀ j, k ≤ j → j < n → h 58 (6 * s + j) = h0 58 (6 * s + j)) → wX8_layStands_64 g KV h (nI s) b (nI (a + i)) (nI S) (nI k) := by
  intro d
  induction d with
  | zero =>
    intro k h hd hk ho h1 h2 h3
    have ek : k = n := by omega
    subst ek
    exact vX8_layStands_64 ⟨fun _ => kk h ho h1 h2, fun z => absurd (by rw [ho.2 13 (by decide), e]; exact nI_le (Nat.le_refl _) (by omega)) z⟩
  | succ d ih =>
    intro k h hd hk ho h1 h2 h3
    refine vX8_layStands_64 ⟨fun z => ?_, fun _ => ?_⟩
    · rw [ho.2 13 (by decide), e, nI_leI (by omega) (by omega)] at z; omega
    · rw [show (6 : Int32) = nI 6 from rfl, nI_mul, nI_add, ix_nI (by omega), nI_1, a_bit (by omega) (by omega), h3 k (by omega) (by omega), e0 k (by omega), nI_add]
      refine ⟨vp_in_nI (by omega) (by decide), vp_in_nI (by omega) (by decide), ?_⟩
      refine ih (k + 1) _ (by omega) (by omega) (ho.trans (OnlyM.upC (by decide) (by decide))) (fun q hq => by rw [up_row _ _ _ _ (by omega)]; exact h1 q hq) (fun j hj => ?_) (fun j hj1 hj2 => by rw [up_row _ _ _ _ (by omega)]; exact h3 j (by omega) hj2)
      by_cases ej : j = k
      · subst ej
        rw [up_at, tal, eS]
      · rw [up_row _ _ _ _ (by omega)]; exact h2 j (by omega)
theorem l_lay47 {p n c s a m : Nat} {kd sg wy : Nat → Nat} {h0 : Hp} (hs : s < 64) (ham : a + m ≤ 100) (hm : 0 < m) (hM0 : MDt h0 p n kd sg (bpc s) wy) (hc : c < 4096) (e70 : h0 44 7 = nI c)
    (kk : ∀ h2 : Hp, OnlyM [54, 55, 56, 58] [23, 24, 25] h0 h2 → (∀ q, (q < 6 * s ∨ 6 * s + 6 ≤ q) → h2 58 q = h0 58 q) → (∀ j, j < n → h2 58 (6 * s + j) = nI (tT p n kd sg wy c a m s j)) → KV h2) : ∀ (d i : Nat) (h : Hp), m - i = d → i ≤ m → OnlyM [54, 55, 56, 58] [23, 24, 25] h0 h → (∀ q, (q < 6 * s ∨ 6 * s + 6 ≤ q) → h 58 q = h0 58 q) → (∀ j, j < n → h 58 (6 * s + j) = nI (tal (sT p n kd sg (bpc s) wy c (2 ^ n - 1)) j a i)) → wX8_layStands_47 g KV h (nI s) (nI (a + m - 1)) (nI (a + i)) := by
  have hn := hM0.2.1
  intro d
  induction d with
  | zero =>
    intro i h hd hi ho h1 h2
    have ei : i = m := by omega
    subst ei
    exact vX8_layStands_47 ⟨fun _ => kk h ho h1 h2, fun z => absurd (nI_lt (by omega) (by omega)) z⟩
  | succ d ih =>
    intro i h hd hi ho h1 h2
    refine vX8_layStands_47 ⟨fun z => ?_, fun _ => ?_⟩
    · rw [nI_ltI (by omega) (by omega)] at z; omega
    · refine c_standingAt (by omega) (hM0.keep ho (by decide) (by decide)) hc (by rw [ho.2 7 (by decide)]; exact e70) (fun h3 u u2 o3 _ _ _ h64 => ?_)
      have o03 := ho.trans (o3.weaken (L2 := [54, 55, 56, 58]) (J2 := [23, 24, 25]) (by decide) (by decide))
      have e58 : h3 58 = h 58 := o3.1 58 (by decide) (by decide)
      refine l_lay64 (g := g) (m := m) hn hs h64 (by rw [o03.2 13 (by decide)]; exact hM0.2.2.2.2.1) rfl (fun j hj => by rw [e58]; exact h2 j hj) (fun h4 o4 g1 g2 => ?_) n 0 h3 rfl (Nat.zero_le _) (OnlyM.rf _) (fun _ _ => rfl) (fun j hj => by omega) (fun _ _ _ => rfl)
      rw [nI_1]
      exact ih (i + 1) h4 (by omega) (by omega) (o03.trans (o4.weaken (by decide) (by decide))) (fun q hq => by rw [g1 q hq, e58]; exact h1 q hq) g2
theorem l_lay3 {n s : Nat} {a b : Int32} {h0 : Hp} (hn : n ≤ 6) (hs : s < 64) (e : h0 44 13 = nI n) (kk : ∀ h2 : Hp, OnlyM [51, 58] [] h0 h2 → (∀ j, n ≤ j → h2 51 j = h0 51 j) → (∀ q, (q < 6 * s ∨ 6 * s + 6 ≤ q) → h2 58 q = h0 58 q) → (∀ j, j < n → h2 51 j = nI (bpc s j) ∧ h2 58 (6 * s + j) = 0) → wX8_layStands_47 g KV h2 (nI s) b a) : ∀ (d i : Nat) (h : Hp), n - i = d → i ≤ n → OnlyM [51, 58] [] h0 h → (∀ j, n ≤ j → h 51 j = h0 51 j) → (∀ q, (q < 6 * s ∨ 6 * s + 6 ≤ q) → h 58 q = h0 58 q) → (∀ j, j < i → h 51 j = nI (bpc s j) ∧ h 58 (6 * s + j) = 0) → wX8_layStands_3 g KV h (nI s) a b (nI i) := by
  intro d
  induction d with
  | zero =>
    intro i h hd hi ho h1 h2 h3
    have ei : i = n := by omega
    subst ei
    exact vX8_layStands_3 ⟨fun _ => kk h ho h1 h2 h3, fun z => absurd (by rw [ho.2 13 (by decide), e]; exact nI_le (Nat.le_refl _) (by omega)) z⟩
  | succ d ih =>
    intro i h hd hi ho h1 h2 h3
    refine vX8_layStands_3 ⟨fun z => ?_, fun _ => ?_⟩
    · rw [ho.2 13 (by decide), e, nI_leI (by omega) (by omega)] at z; omega
    · rw [show (6 : Int32) = nI 6 from rfl, nI_mul, nI_add, ix_nI (by omega), ix_nI (by omega), nI_1, a_bit (by omega) (by omega)]
      refine ⟨vp_in_nI (by omega) (by decide), vp_in_nI (by omega) (by decide), ?_⟩
      refine ih (i + 1) _ (by omega) (by omega) ((ho.trans (OnlyM.upC (by decide) (by decide))).trans (OnlyM.upC (by decide) (by decide))) (fun j hj => by rw [up_cell _ _ _ _ (by decide), up_row _ _ _ _ (by omega)]; exact h1 j hj) (fun q hq => by rw [up_row _ _ _ _ (by omega), up_cell _ _ _ _ (by decide)]; exact h2 q hq) (fun j hj => ?_)
      by_cases ej : j = i
      · subst ej
        refine ⟨?_, up_at _ _ _ _⟩
        rw [up_cell _ _ _ _ (by decide), up_at]; rfl
      · refine ⟨?_, ?_⟩
        · rw [up_cell _ _ _ _ (by decide), up_row _ _ _ _ ej]; exact (h3 j (by omega)).1
        · rw [up_row _ _ _ _ (by omega), up_cell _ _ _ _ (by decide)]; exact (h3 j (by omega)).2
theorem c_layStands {p n c s a b : Nat} {kd sg pc wy : Nat → Nat} (hab : a ≤ b) (hb : b ≤ 99) (hs : s < 64) {h0 : Hp} (hM0 : MDt h0 p n kd sg pc wy) (hc : c < 4096) (e70 : h0 44 7 = nI c) (ho : OnlyM [51, 54, 55, 56, 58] [23, 24, 25] h0 h) (hj : ∀ j, n ≤ j → h 51 j = h0 51 j)
    (kk : ∀ h2 : Hp, OnlyM [51, 54, 55, 56, 58] [23, 24, 25] h0 h2 → (∀ j, n ≤ j → h2 51 j = h0 51 j) → (∀ q, (q < 6 * s ∨ 6 * s + 6 ≤ q) → h2 58 q = h 58 q) → (∀ j, j < n → h2 58 (6 * s + j) = nI (tT p n kd sg wy c a (b + 1 - a) s j)) → KV h2) : FV g mX8_layStands [.ref 44, .int (nI s), .int (nI a), .int (nI b)] h KV := by
  have hn := hM0.2.1
  refine eX8_layStands (vX8_layStands_0 ?_)
  refine l_lay3 (g := g) hn hs (by rw [ho.2 13 (by decide)]; exact hM0.2.2.2.2.1) (fun h2 o2 g1 g2 g3 => ?_) n 0 h rfl (Nat.zero_le _) (OnlyM.rf _) (fun _ _ => rfl) (fun _ _ => rfl) (fun j hj => by omega)
  have o02 := ho.trans (o2.weaken (L2 := [51, 54, 55, 56, 58]) (J2 := [23, 24, 25]) (by decide) (by decide))
  have hM2 : MDt h2 p n kd sg (bpc s) wy := hM0.paces o02 (by decide) (by decide) (fun j hj => ⟨(g3 j hj).1, bpc_le s j⟩)
  have := l_lay47 (g := g) (KV := KV) (h0 := h2) (a := a) (m := b + 1 - a) (c := c) hs (by omega) (by omega) hM2 hc (by rw [o02.2 7 (by decide)]; exact e70) (fun h3 o3 k1 k2 => kk h3 (o02.trans (o3.weaken (by decide) (by decide))) (fun j hjn => by rw [o3.1 51 (by decide) (by decide), g1 j hjn]; exact hj j hjn) (fun q hq => by rw [k1 q hq, g2 q hq]) k2) (b + 1 - a) 0 h2 rfl (Nat.zero_le _) (OnlyM.rf _) (fun _ _ => rfl) (fun j hj => (g3 j hj).2)
  rw [show a + (b + 1 - a) - 1 = b by omega, Nat.add_zero] at this
  exact this
theorem l_mrows {p n c a b : Nat} {q : Int32} {kd sg pc wy : Nat → Nat} {h0 : Hp} (hab : a ≤ b) (hb : b ≤ 99) (hM0 : MDt h0 p n kd sg pc wy) (hc : c < 4096) (e70 : h0 44 7 = nI c) (e57 : ∀ j, j < n → h0 57 j = h0 51 j)
    (kk : ∀ h2 : Hp, OnlyM [54, 55, 56, 58] [23, 24, 25] h0 h2 → RwS h2 58 n (2 ^ n) (tT p n kd sg wy c a (b + 1 - a)) → wX8_still_66 g K h2 q 0 (-1) 0) : ∀ (d i : Nat) (h : Hp), 2 ^ n - i = d → i ≤ 2 ^ n → OnlyM [51, 54, 55, 56, 58] [23, 24, 25] h0 h → (∀ j, n ≤ j → h 51 j = h0 51 j) → RwS h 58 n i (tT p n kd sg wy c a (b + 1 - a)) → wX8_still_28 g K h (nI a) (nI b) q (nI i) := by
  have hn := hM0.2.1
  have e13 := hM0.2.2.2.2.1
  have h1n := Nat.one_le_two_pow (n := n)
  have h2n : 2 ^ n - 1 < 64 := p64 hn (by omega)
  intro d
  induction d with
  | zero =>
    intro i h hd hi ho hj hR
    have ei : i = 2 ^ n := by omega
    subst ei
    have e13' : h 44 13 = nI n := by rw [ho.2 13 (by decide)]; exact e13
    refine vX8_still_28 ⟨fun _ => ?_, fun z => absurd (by rw [e13', a_shl1 (by omega)]; exact nI_le (Nat.le_refl _) (by omega)) z⟩
    refine c_restorePaces hn e13' (fun h1 o1 v1 v2 => kk h1 ⟨fun r hr h4 => ?_, fun j hj2 => by rw [o1.2 j (by simp), ho.2 j hj2]⟩ (by unfold RwS; rw [o1.1 58 (by decide) (by decide)]; exact hR))
    by_cases e51 : r = 51
    · subst e51
      funext j
      by_cases hjn : j < n
      · rw [v1 j hjn, ho.1 57 (by decide) (by decide), e57 j hjn]
      · rw [v2 j (by omega), hj j (by omega)]
    · rw [o1.1 r (by simpa using e51) h4, ho.1 r (by simp only [List.mem_cons, List.not_mem_nil, or_false, not_or] at hr ⊢; omega) h4]
  | succ d ih =>
    intro i h hd hi ho hj hR
    have e13' : h 44 13 = nI n := by rw [ho.2 13 (by decide)]; exact e13
    refine vX8_still_28 ⟨fun z => ?_, fun _ => ?_⟩
    · rw [e13', a_shl1 (by omega), nI_leI (by omega) (by omega)] at z; omega
    · refine c_layStands hab hb (by omega) hM0 hc e70 ho hj (fun h2 o2 g1 g2 g3 => ?_)
      rw [nI_1]
      refine ih (i + 1) h2 (by omega) (by omega) o2 g1 (fun s hs j hj => ?_)
      by_cases es : s = i
      · subst es; exact g3 j hj
      · rw [g2 _ (Or.inl (by omega))]; exact hR s (by omega) j hj
theorem l_mstill {n : Nat} {q : Int32} {h : Hp} {T : Nat → Nat → Nat} (hn : n ≤ 6) (e13 : h 44 13 = nI n) (hT100 : ∀ s j, T s j ≤ 100) (hR : RwS h 58 n (2 ^ n) T)
    (kk : ∀ (o : Option Nat), BG (fun s => stl T s n = true) (fun _ => 0) (2 ^ n) o → K (if q = 0 then nI (tal (s01 T n) 0 0 (2 ^ n)) else oI o) h) : ∀ (d i : Nat) (o : Option Nat), 2 ^ n - i = d → i ≤ 2 ^ n → BG (fun s => stl T s n = true) (fun _ => 0) i o → (o = none ↔ tal (s01 T n) 0 0 i = 0) → wX8_still_66 g K h q (nI (tal (s01 T n) 0 0 i)) (oI o) (nI i) := by
  have h1n := Nat.one_le_two_pow (n := n)
  have h2n : 2 ^ n - 1 < 64 := p64 hn (by omega)
  intro d
  induction d with
  | zero =>
    intro i o hd hi hb hz
    have ei : i = 2 ^ n := by omega
    subst ei
    exact vX8_still_66 ⟨fun _ => br_v' (P := fun v => K v h) (kk o hb), fun z => absurd (by rw [e13, a_shl1 (by omega)]; exact nI_le (Nat.le_refl _) (by omega)) z⟩
  | succ d ih =>
    intro i o hd hi hb hz
    have htl := tal_le (s01 T n) 0 0 i
    have tS : tal (s01 T n) 0 0 (i + 1) = tal (s01 T n) 0 0 i + if stl T i n = true then 1 else 0 := by
      show _ + bt (s01 T n (0 + i)) 0 = _
      rw [Nat.zero_add, s01_bt]
    have s98 : ∀ o2 : Option Nat, BG (fun s => stl T s n = true) (fun _ => 0) (i + 1) o2 → (o2 = none ↔ tal (s01 T n) 0 0 (i + 1) = 0) → wX8_still_98 g K h q (nI (tal (s01 T n) 0 0 i)) (nI i) (oI o2) := by
      intro o2 hb2 hz2
      have nx := ih (i + 1) o2 (by omega) (by omega) hb2 hz2
      refine vX8_still_98 (c_isStill hn (by omega) e13 hR hT100 (br_b (fun b => ?_) (fun b => ?_)))
      · rw [if_neg (by rw [b]; decide), Nat.add_zero] at tS
        rw [tS] at nx
        rw [Int32.add_zero, nI_1]; exact nx
      · rw [if_pos b] at tS
        rw [tS] at nx
        rw [nI_1, nI_1]; exact nx
    refine vX8_still_66 ⟨fun z => ?_, fun _ => ?_⟩
    · rw [e13, a_shl1 (by omega), nI_leI (by omega) (by omega)] at z; omega
    · rw [nI_eq0 (by omega)]
      refine ⟨fun z => ?_, fun z => c_isStill hn (by omega) e13 hR hT100 (br_b (fun b => ?_) (fun b => ?_))⟩
      · cases o with
        | none => exact absurd (hz.mp rfl) z
        | some v =>
          refine s98 (some v) (hb.keep (Nat.le_refl _)) ⟨fun y => (by cases y), fun y => ?_⟩
          omega
      · refine s98 o (hb.no (fun y => by rw [b] at y; cases y)) ?_
        rw [if_neg (by rw [b]; decide), Nat.add_zero] at tS
        rw [tS]; exact hz
      · have ho : o = none := hz.mpr z
        subst ho
        refine s98 (some i) (hb.new b (fun v y => by cases y)) ⟨fun y => (by cases y), fun y => ?_⟩
        rw [if_pos b] at tS
        omega
theorem op_still {a b c : Int32} (hS : Sim h) : FI g mX7_still [.ref 0, .int a, .int b, .int c] h (fun r h1 => FI g mX8_still [.ref 44, .int a, .int b, .int c] h1 (fun r2 h2 => r = r2 ∧ Sim h2)) := by
  obtain ⟨p, n, ch, kd, sg, pc, wy, wt, hT, -⟩ := (Sim.iff h).mp hS
  have hn := hT.1.2.2.1
  refine eX7_still (vX7_still_0 (c_areMinutes (br_b (fun e1 => ?_) (fun e1 => c_isEither (br_b' (fun e2 => ?_) (fun e2 => ?_))))))
  · exact eX8_still (vX8_still_0 (c_isSpan (br_b (fun _ => ⟨rfl, hS⟩) (fun z => by rw [e1] at z; cases z))))
  · exact eX8_still (vX8_still_0 (c_isSpan (br_b (fun z => by rw [e1] at z; cases z) (fun _ => c_inE (br_b' (fun _ => ⟨rfl, hS⟩) (fun z => by rw [e2] at z; cases z))))))
  · obtain ⟨A, B, hAB, hB, rfl, rfl⟩ := spn_of e1
    have h100 : ∀ s j, tT p n kd sg wy ch A (B + 1 - A) s j ≤ 100 := fun s j => by
      have := tal_le (sT p n kd sg (bpc s) wy ch (2 ^ n - 1)) j A (B + 1 - A)
      show tal _ _ _ _ ≤ 100
      omega
    refine eX1_findStill (vX1_findStill_0 (c_told hT (fun h2 o2 hT2 hW2 e5 e6 => ?_)))
    refine l_xrows (g := g) (h0 := h) hAB hB hT (fun h3 o3 hR3 => ?_) (2 ^ n) 0 h2 rfl (Nat.zero_le _) (o2.weaken (by decide)) (fun j hj => (hW2 j hj).2.2.1) e5 e6 (fun s hs => by omega)
    have o3' : Only scX h (q_up (q_up h3 24 3 0) 24 4 (-1)) := (o3.trans (Only.up (by decide))).trans (Only.up (by decide))
    refine l_xstill (g := g) (a := A) (m := B) (h0 := q_up (q_up h3 24 3 0) 24 4 (-1)) (hT.xo o3' (fun _ z => z)) h100 hR3 (fun h4 o o4 hb f3 f4 => ?_) (2 ^ n) 0 _ none rfl (Nat.zero_le _) (Only.rf _) (fun w hw => by omega) rfl rfl
    have o5 : Only scX h h4 := o3'.trans (o4.weaken (by decide))
    have hT4 := hT.xo o5 (fun _ z => z)
    have mside : ∀ {r : Int32}, (r = if c = 0 then nI (tal (s01 (tT p n kd sg wy ch A (B + 1 - A)) n) 0 0 (2 ^ n)) else oI o) → FI g mX8_still [.ref 44, .int (nI A), .int (nI B), .int c] h4 (fun r2 h2 => r = r2 ∧ Sim h2) := by
      intro r hr
      refine eX8_still (vX8_still_0 (c_isSpan (br_b (fun z => by rw [e1] at z; cases z) (fun _ => c_inE (br_b' (fun z => by rw [e2] at z; cases z) (fun _ => ?_))))))
      refine c_savePaces hn hT4.2.2.1.2.2 (fun h5 o6 v5 => ?_)
      have hM5 : MDt h5 p n kd sg pc wy := hT4.md.keep o6 (by decide) (by decide)
      refine l_mrows (g := g) (h0 := h5) hAB hB hM5 hT.c4 (by rw [o6.2 7 (by decide)]; exact hT4.2.2.1.2.1) (fun j hj => by rw [v5 j hj, o6.1 51 (by decide) (by decide)]) (fun h6 o7 hR6 => ?_) (2 ^ n) 0 h5 rfl (Nat.zero_le _) (OnlyM.rf _) (fun _ _ => rfl) (fun s hs => by omega)
      refine l_mstill (g := g) hn (by rw [o7.2 13 (by decide)]; exact hM5.2.2.2.2.1) h100 hR6 (fun ob hb6 => ?_) (2 ^ n) 0 none rfl (Nat.zero_le _) (fun w hw => by omega) ⟨fun _ => rfl, fun _ => rfl⟩
      rw [hb6.uniq hb]
      exact ⟨hr, (hS.x o5).m ((o6.weaken (by decide) (by decide)).trans (o7.weaken (by decide) (by decide)))⟩
    refine ⟨fun z => ?_, fun z => ?_⟩
    · rw [f4]; exact mside (by rw [if_neg z])
    · rw [f3]; exact mside (by rw [if_pos z])
end Sl
