/-! odds, price -/
theorem spn_of {a b : Int32} (h : spn a b = true) : ∃ A B, A ≤ B ∧ B ≤ 99 ∧ a = nI A ∧ b = nI B := by
  unfold spn at h
  have h := of_decide_eq_true h
  refine ⟨a.toInt.toNat, b.toInt.toNat, by omega, by omega, ?_, ?_⟩
  · rw [i_eq, nI_toInt (by omega)]; omega
  · rw [i_eq, nI_toInt (by omega)]; omega
def eu : Nat → Nat → Nat → Nat
  | 0, a, _ => a
  | f + 1, a, b => if b = 0 then a else eu f b (a % b)
theorem eu_gcd : ∀ a, a < 101 → ∀ b, b < 101 → eu 64 a b = Nat.gcd a b := by decide +kernel
section Od
variable {g : QG} {h : Hp} {K : Int32 → Hp → Prop} {KV : Hp → Prop}
theorem l_cd : ∀ (f i a b : Nat), i + f = 64 → a < 101 → b < 101 → K (nI (eu f a b)) h → wX7_commonDivisor_7 g K h (nI a) (nI b) (nI i) := by
  intro f
  induction f with
  | zero =>
    intro i a b hi ha hb hK
    have e : i = 64 := by omega
    subst e
    exact vX7_commonDivisor_7 ⟨fun _ => hK, fun hx => absurd (nI_le (a := 64) (Nat.le_refl _) (by decide)) hx⟩
  | succ f ih =>
    intro i a b hi ha hb hK
    rw [eu] at hK
    refine vX7_commonDivisor_7 ⟨fun hx => ?_, fun _ => ⟨fun hx => ?_, fun hx => ⟨hx, ?_⟩⟩⟩
    · rw [show (64 : Int32) = nI 64 from rfl, nI_leI (by decide) (by omega)] at hx; omega
    · rw [show (0 : Int32) = nI 0 from rfl, nI_eq (by omega) (by decide)] at hx
      rw [if_pos hx] at hK; exact hK
    · rw [show (0 : Int32) = nI 0 from rfl, nI_eq (by omega) (by decide)] at hx
      rw [if_neg hx] at hK
      have := Nat.mod_lt a (Nat.pos_of_ne_zero hx)
      rw [pk_rem (by omega) (by omega) (by omega), nI_1]
      exact ih (i + 1) b (a % b) (by omega) hb (by omega) hK
theorem c_commonDivisor {a b : Nat} (ha : a < 101) (hb : b < 101) (hK : K (nI (Nat.gcd a b)) h) : FI g mX7_commonDivisor [.int (nI a), .int (nI b)] h K := eX7_commonDivisor (vX7_commonDivisor_0 (l_cd (g := g) 64 0 a b rfl ha hb (by rw [eu_gcd a ha b hb]; exact hK)))
theorem l_modds {u v : Nat} {q : Int32} (hv : v < 101) (hu : u < 101) : ∀ (d x y : Nat), y ≤ d → x < 101 → y < 101 → 0 < Nat.gcd x y → ((¬ q = 0 → K (nI (v / Nat.gcd x y)) h) ∧ (q = 0 → K (nI (u / Nat.gcd x y)) h)) → wX8_odds_57 g K h q (nI u) (nI v) (nI x) (nI y) := by
  intro d
  induction d with
  | zero =>
    intro x y hy hx101 hy101 hg hK
    have e : y = 0 := by omega
    subst e
    rw [Nat.gcd_zero_right] at hK hg
    have hx0 : ¬ nI x = 0 := nI_ne0 hg (by omega)
    refine vX8_odds_57 ⟨fun _ => ⟨fun hq => ⟨hx0, ?_⟩, fun hq => ⟨hx0, ?_⟩⟩, fun z => absurd rfl z⟩
    · rw [pk_div (by omega) hg (by omega)]; exact hK.1 hq
    · rw [pk_div (by omega) hg (by omega)]; exact hK.2 hq
  | succ d ih =>
    intro x y hy hx101 hy101 hg hK
    by_cases e : y = 0
    · subst e
      rw [Nat.gcd_zero_right] at hK hg
      have hx0 : ¬ nI x = 0 := nI_ne0 hg (by omega)
      refine vX8_odds_57 ⟨fun _ => ⟨fun hq => ⟨hx0, ?_⟩, fun hq => ⟨hx0, ?_⟩⟩, fun z => absurd rfl z⟩
      · rw [pk_div (by omega) hg (by omega)]; exact hK.1 hq
      · rw [pk_div (by omega) hg (by omega)]; exact hK.2 hq
    · have hy0 : ¬ nI y = 0 := nI_ne0 (by omega) (by omega)
      have hm := Nat.mod_lt x (Nat.pos_of_ne_zero e)
      have eg : Nat.gcd y (x % y) = Nat.gcd x y := by rw [Nat.gcd_comm y (x % y), ← Nat.gcd_rec, Nat.gcd_comm]
      refine vX8_odds_57 ⟨fun z => absurd z hy0, fun _ => ⟨hy0, ?_⟩⟩
      rw [pk_rem (by omega) (by omega) (by omega)]
      exact ih y (x % y) (by omega) hy101 (by omega) (by rw [eg]; exact hg) (by rw [eg]; exact hK)
theorem op_odds {a b c d : Int32} (hS : Sim h) : FI g mX7_odds [.ref 0, .int a, .int b, .int c, .int d] h (fun r h1 => FI g mX8_odds [.ref 44, .int a, .int b, .int c, .int d] h1 (fun r2 h2 => r = r2 ∧ Sim h2)) := by
  obtain ⟨p, n, ch, kd, sg, pc, wy, wt, hT, -⟩ := (Sim.iff h).mp hS
  have hn := hT.1.2.2.1
  refine eX7_odds (vX7_odds_0 (c_hasGuest (by omega) hT.2.1.2.2 (br_b' (fun e1 => ?_) (fun e1 => c_areMinutes (br_b (fun e2 => ?_) (fun e2 => c_isEither (br_b' (fun e3 => ?_) (fun e3 => ?_))))))))
  · exact eX8_odds (vX8_odds_0 (c_isGuest (by omega) hT.2.2.1.2.2 (br_b' (fun _ => ⟨rfl, hS⟩) (fun z => by rw [e1] at z; cases z))))
  · exact eX8_odds (vX8_odds_0 (c_isGuest (by omega) hT.2.2.1.2.2 (br_b' (fun z => by rw [e1] at z; cases z) (fun _ => c_isSpan (br_b (fun _ => ⟨rfl, hS⟩) (fun z => by rw [e2] at z; cases z))))))
  · exact eX8_odds (vX8_odds_0 (c_isGuest (by omega) hT.2.2.1.2.2 (br_b' (fun z => by rw [e1] at z; cases z) (fun _ => c_isSpan (br_b (fun z => by rw [e2] at z; cases z) (fun _ => c_inE (br_b' (fun _ => ⟨rfl, hS⟩) (fun z => by rw [e3] at z; cases z))))))))
  · obtain ⟨k, hk, rfl⟩ := blw_of e1
    obtain ⟨A, B, hAB, hB, rfl, rfl⟩ := spn_of e2
    refine c_told hT (fun h2 o2 hT2 hW2 e5 e6 => ?_)
    refine c_tally hAB hB hT.all hT.c4 hT2.xd hW2 e5 e6 (fun h3 o3 v3 => ⟨vp_in_nI (by omega) (by decide), ?_⟩)
    have o13 : Only scX h h3 := (o2.weaken (by decide)).trans (o3.weaken (by decide))
    have hT3 := hT.xo o13 (fun _ z => z)
    rw [ix_nI (by omega), v3 k hk, pk_sub hAB, nI_1]
    generalize hU : tal (sT p n kd sg pc wy ch (2 ^ n - 1)) k A (B + 1 - A) = U
    have hU1 : U ≤ B + 1 - A := by rw [← hU]; exact tal_le _ _ _ _
    have hg : 0 < Nat.gcd U (B - A + 1) := Nat.gcd_pos_of_pos_right _ (by omega)
    refine c_commonDivisor (by omega) (by omega) ?_
    rw [Nat.gcd_comm]
    have hgl : Nat.gcd U (B - A + 1) ≤ B - A + 1 := Nat.gcd_le_right _ (by omega)
    have mside : ∀ {r : Int32}, ((¬ d = 0 → r = nI ((B - A + 1) / Nat.gcd U (B - A + 1))) ∧ (d = 0 → r = nI (U / Nat.gcd U (B - A + 1)))) → FI g mX8_odds [.ref 44, .int (nI k), .int (nI A), .int (nI B), .int d] h3 (fun r2 h2 => r = r2 ∧ Sim h2) := by
      intro r hr
      refine eX8_odds (vX8_odds_0 (c_isGuest (n := n) (by omega) hT3.2.2.1.2.2 (br_b' (fun z => by rw [e1] at z; cases z) (fun _ => c_isSpan (br_b (fun z => by rw [e2] at z; cases z) (fun _ => c_inE (br_b' (fun z => by rw [e3] at z; cases z) (fun _ => ?_))))))))
      refine c_minutesOf hk hAB hB hT.c4 hT3.md hT3.2.2.1.2.1 (fun h4 o4 => ?_)
      have hS4 : Sim h4 := (hS.x o13).m (o4.weaken (by decide) (by decide))
      rw [hU, pk_sub hAB, nI_1]
      exact l_modds (g := g) (by omega) (by omega) _ U (B - A + 1) (Nat.le_refl _) (by omega) (by omega) hg ⟨fun z => ⟨hr.1 z, hS4⟩, fun z => ⟨hr.2 z, hS4⟩⟩
    have hne : ¬ nI (Nat.gcd U (B - A + 1)) = 0 := nI_ne0 hg (by omega)
    refine ⟨fun _ => ⟨fun z => ⟨hne, ?_⟩, fun z => ⟨hne, ?_⟩⟩, fun z => absurd (nI_le (a := 1) hg (by omega)) z⟩
    · rw [pk_div (by omega) hg (by omega)]
      exact mside ⟨fun _ => rfl, fun z2 => absurd z2 z⟩
    · rw [pk_div (by omega) hg (by omega)]
      exact mside ⟨fun z2 => absurd z z2, fun _ => rfl⟩
/-- the greatest worth of a set -/
def gwt (wt : Nat → Nat) (S : Nat) : Nat → Nat
  | 0 => 0
  | i + 1 => if S.testBit i = true then (if gwt wt S i < wt i then wt i else gwt wt S i) else gwt wt S i
theorem gwt_le {wt : Nat → Nat} {S n : Nat} (h : ∀ k, k < n → wt k ≤ 99) : ∀ i, i ≤ n → gwt wt S i ≤ 99
  | 0, _ => Nat.zero_le _
  | i + 1, hi => by
    have := gwt_le (S := S) h i (by omega)
    have := h i (by omega)
    unfold gwt
    split
    · split <;> omega
    · omega
theorem c_max {a b : Nat} (ha : a < 1000) (hb : b < 1000) (hK : K (nI (if a < b then b else a)) h) : FI g mJ9_max_7cf53 [.int (nI a), .int (nI b)] h K := by
  refine eJ9_max_7cf53 (vJ9_max_7cf53_0 ?_)
  rw [nI_ltI (by omega) (by omega)]
  refine ⟨fun z => ?_, fun z => ?_⟩
  · rw [if_pos z] at hK; exact hK
  · rw [if_neg z] at hK; exact hK
theorem c_min {a b : Nat} (ha : a < 1000) (hb : b < 1000) (hK : K (nI (if b < a then b else a)) h) : FI g mJ9_min_7cf53 [.int (nI a), .int (nI b)] h K := by
  refine eJ9_min_7cf53 (vJ9_min_7cf53_0 ?_)
  rw [nI_ltI (by omega) (by omega)]
  refine ⟨fun z => ?_, fun z => ?_⟩
  · rw [if_pos z] at hK; exact hK
  · rw [if_neg z] at hK; exact hK
theorem l_gw {n S : Nat} {wt : Nat → Nat} (hn : n ≤ 6) (hS : S < 64) (e : h 1 2 = nI n) (hw : ∀ k, k < n → h 6 k = nI (wt k)) (hw9 : ∀ k, k < n → wt k ≤ 99) (hK : K (nI (gwt wt S n)) h) : ∀ (d i : Nat), n - i = d → i ≤ n → wX6_greatestWorth_4 g K h (nI S) (nI (gwt wt S i)) (nI i) := by
  intro d
  induction d with
  | zero =>
    intro i hd hi
    have e2 : i = n := by omega
    subst e2
    exact vX6_greatestWorth_4 ⟨fun _ => hK, fun hx => absurd (by rw [e]; exact nI_le (Nat.le_refl _) (by omega)) hx⟩
  | succ d ih =>
    intro i hd hi
    have g9 := gwt_le (S := S) hw9 i (by omega)
    have nx := ih (i + 1) (by omega) (by omega)
    rw [gwt] at nx
    refine vX6_greatestWorth_4 ⟨fun hx => ?_, fun _ => ?_⟩
    · rw [e, nI_leI (by omega) (by omega)] at hx; omega
    · refine c_holds (by omega) (by omega) (br_b (fun e1 => ?_) (fun e1 => ⟨vp_in_nI (by omega) (by decide), ?_⟩))
      · rw [e1, if_neg (by decide)] at nx
        rw [nI_1]; exact nx
      · rw [e1, if_pos rfl] at nx
        rw [ix_nI (by omega), hw i (by omega), nI_1]
        exact c_max (by omega) (by have := hw9 i (by omega); omega) nx
def hg_ (G : Nat → Int32) (i : Nat) (b : Bool) : Prop := b = true ↔ ∃ k, k < i ∧ G k ≠ -1
theorem hg_no {G : Nat → Int32} {i : Nat} (h : hg_ G i false) {k : Nat} (hk : k < i) : G k = -1 := by
  by_cases hg : G k = -1
  · exact hg
  · have := h.mpr ⟨k, hk, hg⟩
    cases this
theorem l_mprice {n S : Nat} {wt : Nat → Nat} {G : Nat → Int32} (hn : n ≤ 6) (hS : S < 64) (e : h 44 13 = nI n) (hw : ∀ k, k < n → h 53 k = nI (wt k)) (hw9 : ∀ k, k < n → wt k ≤ 99) (hG : ∀ k, k < 6 → h 56 k = G k) (k0 : (∀ k, k < n → G k = -1) → K 0 h) (k1 : (∃ k, k < n ∧ G k ≠ -1) → K (nI (gwt wt S n)) h) : ∀ (d i : Nat) (b : Bool), n - i = d → i ≤ n → hg_ G i b → wX8_price_24 g K h (nI S) (bi b) (nI (gwt wt S i)) (nI i) := by
  intro d
  induction d with
  | zero =>
    intro i b hd hi hb
    have e2 : i = n := by omega
    subst e2
    refine vX8_price_24 ⟨fun _ => br_b (fun z => k0 (fun k hk => ?_)) (fun z => k1 (hb.mp z)), fun hx => absurd (by rw [e]; exact nI_le (Nat.le_refl _) (by omega)) hx⟩
    subst z
    exact hg_no hb hk
  | succ d ih =>
    intro i b hd hi hb
    have g9 := gwt_le (S := S) hw9 i (by omega)
    have go53 : ∀ b2 : Bool, hg_ G (i + 1) b2 → wX8_price_53 g K h (nI S) (nI (gwt wt S i)) (nI i) (bi b2) := by
      intro b2 hb2
      have nx := ih (i + 1) b2 (by omega) (by omega) hb2
      rw [gwt] at nx
      refine vX8_price_53 (c_has (by omega) (by omega) (br_b (fun e1 => ?_) (fun e1 => ⟨vp_in_nI (by omega) (by decide), ?_⟩)))
      · rw [e1, if_neg (by decide)] at nx
        rw [nI_1]; exact nx
      · rw [e1, if_pos rfl] at nx
        have h9 := hw9 i (by omega)
        rw [ix_nI (by omega), hw i (by omega), nI_leI (by omega) (by omega), nI_1]
        refine ⟨fun z => ?_, fun z => ⟨vp_in_nI (by omega) (by decide), ?_⟩⟩
        · rw [if_neg (by omega)] at nx; exact nx
        · rw [if_pos (by omega)] at nx; exact nx
    refine vX8_price_24 ⟨fun hx => ?_, fun _ => ⟨fun z => ?_, fun z => ⟨vp_in_nI (by omega) (by decide), ?_⟩⟩⟩
    · rw [e, nI_leI (by omega) (by omega)] at hx; omega
    · rw [bin0] at z
      obtain ⟨k, hk, hg⟩ := hb.mp z
      exact go53 true ⟨fun _ => ⟨k, by omega, hg⟩, fun _ => rfl⟩
    · rw [bi0] at z
      subst z
      have hno : ∀ k, k < i → G k = -1 := fun k hk => hg_no hb hk
      rw [ix_nI (by omega), hG i (by omega)]
      refine ⟨fun z => go53 false ⟨fun q => (by cases q), fun ⟨k, hk, hg⟩ => ?_⟩, fun z => go53 true ⟨fun _ => ⟨i, by omega, z⟩, fun _ => rfl⟩⟩
      by_cases ek : k = i
      · subst ek; exact absurd z hg
      · exact absurd (hno k (by omega)) hg
theorem op_price {a : Int32} (hS : Sim h) : FI g mX7_price [.ref 0, .int a] h (fun r h1 => FI g mX8_price [.ref 44, .int a] h1 (fun r2 h2 => r = r2 ∧ Sim h2)) := by
  obtain ⟨p, n, c, kd, sg, pc, wy, wt, hT, -⟩ := (Sim.iff h).mp hS
  have hn := hT.1.2.2.1
  refine eX7_price (vX7_price_0 (c_isMinute (br_b' (fun e1 => ?_) (fun e1 => ?_))))
  · exact eX8_price (vX8_price_0 (c_isTime (br_b' (fun _ => ⟨rfl, hS⟩) (fun e2 => by rw [e1] at e2; cases e2))))
  · obtain ⟨t, ht, rfl⟩ := min_of e1
    refine c_told hT (fun h2 o2 hT2 hW2 e5 e6 => ?_)
    refine c_stoodAt ht hT2.xd hW2 hT.all hT.c4 e5 e6 (fun h3 u o3 x3 hD h64 => ?_)
    have o4 : Only scX h h3 := (o2.weaken (by decide)).trans (o3.weaken (by decide))
    have hT3 := hT.xo o4 (fun _ z => z)
    obtain ⟨b, b1, b2⟩ := x3.2.2.2.1
    replace b2 : hg_ u.2.2 n b := b2
    generalize hSS : SS p n kd (atT p sg pc wy t) c (2 ^ n - 1) = S at h64
    have mside : ∀ {r : Int32}, (b = false → r = 0) → (b = true → r = nI (gwt wt S n)) → FI g mX8_price [.ref 44, .int (nI t)] h3 (fun r2 h2 => r = r2 ∧ Sim h2) := by
      intro r r0 r1
      refine eX8_price (vX8_price_0 (c_isTime (br_b' (fun e2 => by rw [e1] at e2; cases e2) (fun _ => ?_))))
      refine c_standingAt ht hT3.md hT.c4 hT3.2.2.1.2.1 (fun h4 u1 u2 o5 gD gD2 gM _ => ?_)
      have hS4 : Sim h4 := (hS.x o4).m (o5.weaken (by decide) (by decide))
      have eu1 : u1 = u := gD.uniq hD
      subst eu1
      have eG : u2.2.2 = u1.2.2 := by
        obtain ⟨⟨k, hI⟩, -⟩ := gD2
        refine SgI.noG (fun k hk hb3 => ?_) hI
        rw [Nat.testBit_and, Bool.and_eq_true, fset_tb] at hb3
        have : kd k = 2 := by simpa [hk] using hb3.2
        omega
      rw [hSS]
      refine l_mprice (g := g) (wt := wt) (G := u2.2.2) hn h64 (by rw [o5.2 13 (by decide)]; exact hT3.2.2.1.2.2) (fun k hk => by rw [o5.1 53 (by decide) (by decide)]; exact (hT3.2.2.2 k hk).2.2.2.2.2.1) (fun k hk => (hT.2.2.2 k hk).2.2.2.2.2.2) gM.2.2.2 (fun hno => ⟨r0 ?_, hS4⟩) (fun hy => ⟨r1 (b2.mpr (by rw [eG] at hy; exact hy)), hS4⟩) n 0 false rfl (Nat.zero_le _) ⟨fun z => (by cases z), fun ⟨k, hk, _⟩ => by omega⟩
      cases hb4 : b with
      | false => rfl
      | true =>
        obtain ⟨k, hk, hg⟩ := b2.mp hb4
        have := hno k hk
        rw [eG] at this
        exact absurd this hg
    rw [b1]
    refine br_b (fun z => mside (fun _ => rfl) (fun z2 => by rw [z] at z2; cases z2)) (fun z => ?_)
    refine eX6_greatestWorth (vX6_greatestWorth_0 (l_gw (g := g) hn h64 hT3.2.1.2.2 (fun k hk => (hT3.2.2.2 k hk).2.2.2.2.1) (fun k hk => (hT.2.2.2 k hk).2.2.2.2.2.2) (mside (fun z2 => by rw [z] at z2; cases z2) (fun _ => rfl)) n 0 rfl (Nat.zero_le _)))
end Od
