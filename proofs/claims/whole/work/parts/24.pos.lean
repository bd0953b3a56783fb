/-! where guests are: placeAfter, walked, goTo, layAts -/
def fmd (x y : Int32) : Int32 := if 0 ≤ x ^^^ y then x - x / y * y else if x - x / y * y = 0 then x - x / y * y else x - x / y * y + y
theorem fmd_pos : ∀ p, p < 13 → ∀ s, s < 320 → 0 < p → fmd (nI s) (nI p) = nI (s % p) := by decide +kernel
theorem fmd_neg : ∀ p, p < 13 → ∀ m, m < 320 → 0 < p → 0 < m → fmd (nI 0 - nI m) (nI p) = nI ((p - m % p) % p) := by decide +kernel
/-- the place that is s steps on from a (way 0), or back -/
def pst (p a s w : Nat) : Nat := if w = 0 then (a + s % p) % p else (a + p - s % p) % p
theorem pst_bk : ∀ p, p < 13 → ∀ a, a < p → ∀ s, s < 320 → (if s ≤ a then (a - s) % p else (p - (s - a) % p) % p) = (a + p - s % p) % p := by decide +kernel
theorem pst_lt {p a s w : Nat} (hp : 0 < p) : pst p a s w < p := by
  unfold pst
  split <;> exact Nat.mod_lt _ hp
theorem pst_per {p a v w t : Nat} : pst p a (v * (t % p)) w = pst p a (v * t) w := by
  have e : v * (t % p) % p = v * t % p := by rw [Nat.mul_mod, Nat.mod_mod, ← Nat.mul_mod]
  unfold pst
  rw [e]
section Ps
variable {g : QG} {h : Hp} {K : Int32 → Hp → Prop} {KV : Hp → Prop}
theorem c_floorMod {x y : Int32} (hy : ¬ y = 0) (hK : K (fmd x y) h) : FI g mJ9_floorMod_7cf53 [.int x, .int y] h K := by
  unfold fmd at hK
  refine eJ9_floorMod_7cf53 (vJ9_floorMod_7cf53_0 ⟨hy, fun hc => ?_, fun hc => ⟨fun hd => ?_, fun hd => ?_⟩⟩)
  · rw [if_pos hc] at hK; exact hK
  · rw [if_neg hc, if_pos hd] at hK; exact hK
  · rw [if_neg hc, if_neg hd] at hK; exact hK
theorem c_placeAfter {p a s w : Nat} (hp : p ≤ 12) (ha : a < p) (hs : s < 300) (hw : w ≤ 1) (e : h 1 0 = nI p) (hK : K (nI (pst p a s w)) h) : FI g mX6_placeAfter [.ref 1, .int (nI a), .int (nI s), .int (nI w)] h K := by
  have h13 : ∀ x : Int32, (K (fmd x (nI p)) h) → wX6_placeAfter_13 g K h x := by
    intro x hx
    refine vX6_placeAfter_13 ⟨fun _ => ?_, fun hc => absurd (by rw [e]; exact nI_le (a := 1) (by omega) (by omega)) hc⟩
    rw [e]
    exact c_floorMod (nI_ne0 (by omega) (by omega)) hx
  unfold pst at hK
  refine eX6_placeAfter (vX6_placeAfter_0 ⟨fun hc => h13 _ ?_, fun hc => h13 _ ?_⟩)
  · rw [show (0 : Int32) = nI 0 from rfl, nI_eq (by omega) (by decide)] at hc
    rw [if_neg hc, ← pst_bk p (by omega) a ha s (by omega)] at hK
    by_cases hl : s ≤ a
    · rw [if_pos hl] at hK
      rw [pk_sub hl, fmd_pos p (by omega) (a - s) (by omega) (by omega)]; exact hK
    · rw [if_neg hl] at hK
      have e2 : nI a - nI s = nI 0 - nI (s - a) := by
        rw [← pk_sub (a := s) (b := a) (by omega), nI_0, Int32.zero_sub, Int32.neg_sub]
      rw [e2, fmd_neg p (by omega) (s - a) (by omega) (by omega) (by omega)]; exact hK
  · rw [show (0 : Int32) = nI 0 from rfl, nI_eq (by omega) (by decide)] at hc
    rw [if_pos hc, Nat.add_mod_mod] at hK
    rw [nI_add, fmd_pos p (by omega) (a + s) (by omega) (by omega)]; exact hK
theorem c_walked {p a v w t : Nat} (hp : p ≤ 12) (ha : a < p) (hv : v ≤ 3) (ht : t ≤ 99) (hw : w ≤ 1) (e : h 44 6 = nI p) (hK : K (nI (pst p a (v * t) w)) h) : FI g mX8_walked [.ref 44, .int (nI a), .int (nI v), .int (nI w), .int (nI t)] h K := by
  have hvt : v * t ≤ 3 * 99 := Nat.mul_le_mul hv ht
  have hm : v * t % p < p := Nat.mod_lt _ (by omega)
  have h0 : ¬ nI p = 0 := nI_ne0 (by omega) (by omega)
  refine eX8_walked (vX8_walked_0 ?_)
  rw [e, pk_mul, pk_rem (by omega) (by omega) (by omega), nI_add, nI_add, pk_sub (by omega), pk_rem (by omega) (by omega) (by omega), pk_rem (by omega) (by omega) (by omega)]
  unfold pst at hK
  refine ⟨h0, fun hc => ⟨h0, ?_⟩, fun hc => ⟨h0, ?_⟩⟩
  · rw [show (0 : Int32) = nI 0 from rfl, nI_eq (by omega) (by decide)] at hc
    rw [if_neg hc] at hK; exact hK
  · rw [show (0 : Int32) = nI 0 from rfl, nI_eq (by omega) (by decide)] at hc
    rw [if_pos hc] at hK; exact hK
/-- places at minute t -/
def atT (p : Nat) (sg pc wy : Nat → Nat) (t : Nat) : Nat → Nat := fun k => pst p (sg k) (pc k * t) (wy k)
theorem atT_per {p : Nat} {sg pc wy : Nat → Nat} {t : Nat} : atT p sg pc wy (t % p) = atT p sg pc wy t := by
  funext k
  exact pst_per
/-- what texts have told: the class's cells -/
def XD (h : Hp) (p n : Nat) (kd sg : Nat → Nat) : Prop := p ≤ 12 ∧ n ≤ 6 ∧ 0 < p ∧ h 1 0 = nI p ∧ h 1 2 = nI n ∧ ∀ k, k < n → h 2 k = nI (kd k) ∧ kd k ≤ 3 ∧ h 3 k = nI (sg k) ∧ sg k < p
def XW (h : Hp) (n : Nat) (pc wy : Nat → Nat) : Prop := ∀ k, k < n → h 21 k = nI (pc k) ∧ pc k ≤ 3 ∧ h 22 k = nI (wy k) ∧ wy k ≤ 1
theorem XD.keep {h h2 : Hp} {p n : Nat} {kd sg : Nat → Nat} {L : List Nat} (a : XD h p n kd sg) (o : Only L h h2) (hL : 1 ∉ L ∧ 2 ∉ L ∧ 3 ∉ L) : XD h2 p n kd sg := by
  obtain ⟨a1, a2, a3, a4, a5, a6⟩ := a
  refine ⟨a1, a2, a3, by rw [o 1 hL.1]; exact a4, by rw [o 1 hL.1]; exact a5, fun k hk => ?_⟩
  rw [o 2 hL.2.1, o 3 hL.2.2]
  exact a6 k hk
theorem XW.keep {h h2 : Hp} {n : Nat} {pc wy : Nat → Nat} {L : List Nat} (a : XW h n pc wy) (o : Only L h h2) (hL : 21 ∉ L ∧ 22 ∉ L) : XW h2 n pc wy := by
  intro k hk
  rw [o 21 hL.1, o 22 hL.2]
  exact a k hk
theorem XD.xt {h : Hp} {p n : Nat} {kd sg pc wy : Nat → Nat} {t : Nat} (a : XD h p n kd sg) (b : ∀ k, k < n → h 17 k = nI (atT p sg pc wy t k)) : XT h p n kd (atT p sg pc wy t) :=
  ⟨a.1, a.2.1, a.2.2.1, a.2.2.2.1, a.2.2.2.2.1, fun k hk => ⟨(a.2.2.2.2.2 k hk).1, (a.2.2.2.2.2 k hk).2.1, b k hk, pst_lt a.2.2.1⟩⟩
theorem l_goTo {p n t : Nat} {kd sg pc wy : Nat → Nat} {h0 : Hp} (ht : t ≤ 99) (kk : ∀ h2 : Hp, Only [17] h0 h2 → (∀ k, k < n → h2 17 k = nI (atT p sg pc wy t k)) → KV h2) : ∀ (d i : Nat) (h : Hp), n - i = d → i ≤ n → Only [17] h0 h → XD h p n kd sg → XW h n pc wy → (∀ k, k < i → h 17 k = nI (atT p sg pc wy t k)) → wX2_goTo_2 g KV h (nI t) (nI i) := by
  intro d
  induction d with
  | zero =>
    intro i h hd hi ho hX hW hv
    have e : i = n := by omega
    subst e
    exact vX2_goTo_2 ⟨fun _ => kk h ho hv, fun hc => absurd (by rw [hX.2.2.2.2.1]; exact nI_le (Nat.le_refl _) (by have := hX.2.1; omega)) hc⟩
  | succ d ih =>
    intro i h hd hi ho hX hW hv
    have hX0 := hX
    obtain ⟨hp, hn, hp0, e0, e2, hh⟩ := hX
    obtain ⟨k1, k2, k3, k4⟩ := hh i (by omega)
    obtain ⟨w1, w2, w3, w4⟩ := hW i (by omega)
    have hvt : pc i * t ≤ 3 * 99 := Nat.mul_le_mul w2 ht
    refine vX2_goTo_2 ⟨fun hc => ?_, fun _ => ⟨vp_in_nI (by omega) (by decide), vp_in_nI (by omega) (by decide), vp_in_nI (by omega) (by decide), ?_⟩⟩
    · rw [e2, nI_leI (by omega) (by omega)] at hc; omega
    · rw [ix_nI (by omega), k3, w1, w3, pk_mul]
      refine c_placeAfter hp k4 (by omega) w4 e0 ⟨vp_in_nI (by omega) (by decide), ?_⟩
      rw [nI_1]
      have o1 : Only [17] h (q_up h 17 i (nI (pst p (sg i) (pc i * t) (wy i)))) := Only.up (by decide)
      refine ih (i + 1) _ (by omega) (by omega) (ho.trans o1) (hX0.keep o1 (by decide)) (hW.keep o1 (by decide)) (fun k hk => ?_)
      rw [q_up_at]
      unfold upd
      split
      · rename_i e; subst e; rfl
      · exact hv k (by omega)
theorem c_goTo {p n t : Nat} {kd sg pc wy : Nat → Nat} (ht : t ≤ 99) (hX : XD h p n kd sg) (hW : XW h n pc wy) (kk : ∀ h2 : Hp, Only [17] h h2 → (∀ k, k < n → h2 17 k = nI (atT p sg pc wy t k)) → KV h2) : FV g mX2_goTo [.ref 20, .int (nI t)] h KV :=
  eX2_goTo (vX2_goTo_0 (l_goTo (g := g) ht kk n 0 h rfl (Nat.zero_le _) (Only.rf h) hX hW (fun k hk => by omega)))
theorem c_asTold {n : Nat} (hn : n ≤ 6) (e : h 1 2 = nI n) (kk : ∀ h2 : Hp, Only [20, 21, 22] h h2 → (∀ j, j < 6 → h2 21 j = h 4 j) → (∀ j, j < 6 → h2 22 j = h 5 j) → h2 20 5 = nI (2 ^ n - 1) → h2 20 6 = h 1 1 → KV h2) : FV g mX2_asTold [.ref 20] h KV := by
  have o1 : Only [20, 21, 22] h (q_upA (q_upA h 21 (va_cpy (h 4) (h 21) 0 0 6)) 22 (va_cpy (h 5) (h 22) 0 0 6)) := (Only.upA (by decide)).trans (Only.upA (by decide))
  refine eX2_asTold (vX2_asTold_0 (c_everyone hn (by rw [o1 1 (by decide)]; exact e) ?_))
  refine kk _ ((o1.trans (Only.up (by decide))).trans (Only.up (by decide))) (fun j hj => ?_) (fun j hj => ?_) ?_ ?_
  · rw [up_cell _ _ _ _ (by decide), up_cell _ _ _ _ (by decide), q_upA_ne (by decide), q_upA_at, pk_cpy_in (by omega) (by omega)]
    congr 1; omega
  · rw [up_cell _ _ _ _ (by decide), up_cell _ _ _ _ (by decide), q_upA_at, pk_cpy_in (by omega) (by omega)]
    congr 1; omega
  · rw [up_row _ _ _ _ (by decide)]; exact up_at _ _ _ _
  · rw [up_at, o1 1 (by decide)]
/-- the reference's cells -/
def MDt (h : Hp) (p n : Nat) (kd sg pc wy : Nat → Nat) : Prop := p ≤ 12 ∧ n ≤ 6 ∧ 0 < p ∧ h 44 6 = nI p ∧ h 44 13 = nI n ∧ ∀ k, k < n → h 49 k = nI (kd k) ∧ kd k ≤ 3 ∧ h 50 k = nI (sg k) ∧ sg k < p ∧ h 51 k = nI (pc k) ∧ pc k ≤ 3 ∧ h 52 k = nI (wy k) ∧ wy k ≤ 1
theorem MDt.keep {h h2 : Hp} {p n : Nat} {kd sg pc wy : Nat → Nat} {L J : List Nat} (a : MDt h p n kd sg pc wy) (o : OnlyM L J h h2) (hL : 49 ∉ L ∧ 50 ∉ L ∧ 51 ∉ L ∧ 52 ∉ L) (hJ : 6 ∉ J ∧ 13 ∉ J) : MDt h2 p n kd sg pc wy := by
  obtain ⟨a1, a2, a3, a4, a5, a6⟩ := a
  refine ⟨a1, a2, a3, by rw [o.2 6 hJ.1]; exact a4, by rw [o.2 13 hJ.2]; exact a5, fun k hk => ?_⟩
  rw [o.1 49 hL.1 (by decide), o.1 50 hL.2.1 (by decide), o.1 51 hL.2.2.1 (by decide), o.1 52 hL.2.2.2 (by decide)]
  exact a6 k hk
theorem MDt.mt {h : Hp} {p n : Nat} {kd sg pc wy : Nat → Nat} {t : Nat} (a : MDt h p n kd sg pc wy) (b : ∀ k, k < n → h 54 k = nI (atT p sg pc wy t k)) : MT h p n kd (atT p sg pc wy t) :=
  ⟨a.1, a.2.1, a.2.2.1, a.2.2.2.1, a.2.2.2.2.1, fun k hk => ⟨(a.2.2.2.2.2 k hk).1, (a.2.2.2.2.2 k hk).2.1, b k hk, pst_lt a.2.2.1⟩⟩
theorem l_layAts {p n t : Nat} {kd sg pc wy : Nat → Nat} {h0 : Hp} (ht : t ≤ 99) (kk : ∀ h2 : Hp, OnlyM [54] [] h0 h2 → (∀ k, k < n → h2 54 k = nI (atT p sg pc wy t k)) → KV h2) : ∀ (d i : Nat) (h : Hp), n - i = d → i ≤ n → OnlyM [54] [] h0 h → MDt h p n kd sg pc wy → (∀ k, k < i → h 54 k = nI (atT p sg pc wy t k)) → wX8_layAts_2 g KV h (nI t) (nI i) := by
  intro d
  induction d with
  | zero =>
    intro i h hd hi ho hX hv
    have e : i = n := by omega
    subst e
    exact vX8_layAts_2 ⟨fun _ => kk h ho hv, fun hc => absurd (by rw [hX.2.2.2.2.1]; exact nI_le (Nat.le_refl _) (by have := hX.2.1; omega)) hc⟩
  | succ d ih =>
    intro i h hd hi ho hX hv
    have hX0 := hX
    obtain ⟨hp, hn, hp0, e0, e2, hh⟩ := hX
    obtain ⟨k1, k2, k3, k4, w1, w2, w3, w4⟩ := hh i (by omega)
    refine vX8_layAts_2 ⟨fun hc => ?_, fun _ => ⟨vp_in_nI (by omega) (by decide), vp_in_nI (by omega) (by decide), vp_in_nI (by omega) (by decide), ?_⟩⟩
    · rw [e2, nI_leI (by omega) (by omega)] at hc; omega
    · rw [ix_nI (by omega), k3, w1, w3]
      refine c_walked hp k4 w2 ht w4 e0 ⟨vp_in_nI (by omega) (by decide), ?_⟩
      rw [nI_1]
      have o1 : OnlyM [54] [] h (q_up h 54 i (nI (pst p (sg i) (pc i * t) (wy i)))) := OnlyM.upC (by decide) (by decide)
      refine ih (i + 1) _ (by omega) (by omega) (ho.trans o1) (hX0.keep o1 (by decide) (by decide)) (fun k hk => ?_)
      rw [q_up_at]
      unfold upd
      split
      · rename_i e; subst e; rfl
      · exact hv k (by omega)
theorem c_layAts {p n t : Nat} {kd sg pc wy : Nat → Nat} (ht : t ≤ 99) (hX : MDt h p n kd sg pc wy) (kk : ∀ h2 : Hp, OnlyM [54] [] h h2 → (∀ k, k < n → h2 54 k = nI (atT p sg pc wy t k)) → KV h2) : FV g mX8_layAts [.ref 44, .int (nI t)] h KV :=
  eX8_layAts (vX8_layAts_0 (l_layAts (g := g) ht kk n 0 h rfl (Nat.zero_le _) (OnlyM.rf h) hX (fun k hk => by omega)))
end Ps
