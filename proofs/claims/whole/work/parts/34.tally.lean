/-! how often one stands in a span: the reference minute by minute, the class by minutes that are alike -/
abbrev bt (S k : Nat) : Nat := S / 2 ^ k % 2
theorem bt_if (S k : Nat) : bt S k = if S.testBit k = true then 1 else 0 := by
  by_cases h : S.testBit k = true
  · rw [if_pos h]; exact (a_tb S k).mp h
  · rw [if_neg h]
    rcases Nat.mod_two_eq_zero_or_one (S / 2 ^ k) with h2 | h2
    · exact h2
    · exact absurd ((a_tb S k).mpr h2) h
/-- in how many of the m minutes from a on -/
def tal (S : Nat → Nat) (k a : Nat) : Nat → Nat
  | 0 => 0
  | m + 1 => tal S k a m + bt (S (a + m)) k
theorem tal_le (S : Nat → Nat) (k a : Nat) : ∀ m, tal S k a m ≤ m
  | 0 => Nat.le_refl _
  | m + 1 => by
    have := tal_le S k a m
    have h2 : bt (S (a + m)) k < 2 := Nat.mod_lt _ (by decide)
    unfold tal
    omega
theorem tal_app (S : Nat → Nat) (k a : Nat) : ∀ m, tal S k 0 (a + m) = tal S k 0 a + tal S k a m
  | 0 => rfl
  | m + 1 => by
    have := tal_app S k a m
    show tal S k 0 (a + m) + bt (S (0 + (a + m))) k = tal S k 0 a + (tal S k a m + bt (S (a + m)) k)
    rw [this, Nat.zero_add]
    omega
/-- how many minutes below m are like t -/
def cm (p t m : Nat) : Nat := if m ≤ t then 0 else (m - 1 - t) / p + 1
theorem cm_succ : ∀ p, p < 13 → ∀ t, t < p → ∀ m, m < 101 → cm p t (m + 1) = cm p t m + (if m % p = t then 1 else 0) := by decide +kernel
def sm (f : Nat → Nat) : Nat → Nat
  | 0 => 0
  | p + 1 => sm f p + f p
theorem sm_add (c b : Nat → Nat) (x : Nat) : ∀ p, sm (fun t => (c t + if x = t then 1 else 0) * b t) p = sm (fun t => c t * b t) p + if x < p then b x else 0
  | 0 => by simp [sm]
  | p + 1 => by
    have := sm_add c b x p
    unfold sm
    rw [this]
    by_cases e : x = p
    · subst e
      simp [Nat.add_mul]; omega
    · by_cases h : x < p
      · simp [e, h, Nat.lt_succ_of_lt h]; omega
      · simp [e, h, show ¬ x < p + 1 by omega]
theorem sm_congr {f f2 : Nat → Nat} : ∀ {p : Nat}, (∀ t, t < p → f t = f2 t) → sm f p = sm f2 p
  | 0, _ => rfl
  | p + 1, h => by
    unfold sm
    rw [sm_congr (fun t ht => h t (by omega)), h p (by omega)]
theorem tal_cm {p k : Nat} {S : Nat → Nat} (hp : p < 13) (hp0 : 0 < p) (hS : ∀ t, S (t % p) = S t) : ∀ m, m ≤ 101 → tal S k 0 m = sm (fun t => cm p t m * bt (S t) k) p
  | 0, _ => by
    have : sm (fun t => cm p t 0 * bt (S t) k) p = sm (fun _ => 0) p := sm_congr (fun t _ => by simp [cm])
    rw [this]
    have z : ∀ q, sm (fun _ => 0) q = 0 := fun q => by
      induction q with
      | zero => rfl
      | succ q ih => unfold sm; omega
    rw [z]; rfl
  | m + 1, hm => by
    have ih := tal_cm (k := k) hp hp0 hS m (by omega)
    have e : sm (fun t => cm p t (m + 1) * bt (S t) k) p = sm (fun t => (cm p t m + if m % p = t then 1 else 0) * bt (S t) k) p := sm_congr (fun t ht => by rw [cm_succ p hp t ht m (by omega)])
    rw [e, sm_add (fun t => cm p t m) (fun t => bt (S t) k) (m % p) p, if_pos (Nat.mod_lt _ hp0), ← ih]
    show tal S k 0 m + bt (S (0 + m)) k = tal S k 0 m + bt (S (m % p)) k
    rw [Nat.zero_add, hS]
theorem cm_mono {p t a : Nat} (hp : p < 13) (ht : t < p) : ∀ d, a + d ≤ 101 → cm p t a ≤ cm p t (a + d)
  | 0, _ => Nat.le_refl _
  | d + 1, h => by
    have := cm_mono (a := a) hp ht d (by omega)
    have e := cm_succ p hp t ht (a + d) (by omega)
    rw [show a + (d + 1) = a + d + 1 by omega, e]
    omega
theorem cm_le {p t : Nat} (hp : p < 13) (ht : t < p) : ∀ m, m ≤ 101 → cm p t m ≤ m
  | 0, _ => by simp [cm]
  | m + 1, h => by
    have := cm_le hp ht m (by omega)
    have e := cm_succ p hp t ht m (by omega)
    rw [e]
    split <;> omega
/-- minutes of a to b that are like t -/
def mlk (p t a b : Nat) : Nat := cm p t (b + 1) - cm p t a
theorem tal_mlk {p k a b : Nat} {S : Nat → Nat} (hp : p < 13) (hp0 : 0 < p) (hS : ∀ t, S (t % p) = S t) (hab : a ≤ b) (hb : b ≤ 99) : tal S k a (b + 1 - a) = sm (fun t => mlk p t a b * bt (S t) k) p := by
  have h1 := tal_app S k a (b + 1 - a)
  rw [show a + (b + 1 - a) = b + 1 by omega, tal_cm hp hp0 hS (b + 1) (by omega), tal_cm hp hp0 hS a (by omega)] at h1
  have h2 : ∀ q, q ≤ p → sm (fun t => cm p t (b + 1) * bt (S t) k) q = sm (fun t => cm p t a * bt (S t) k) q + sm (fun t => mlk p t a b * bt (S t) k) q := by
    intro q
    induction q with
    | zero => intro _; rfl
    | succ q ih =>
      intro hq
      have := ih (by omega)
      have hm := cm_mono (p := p) (t := q) (a := a) hp (by omega) (b + 1 - a) (by omega)
      rw [show a + (b + 1 - a) = b + 1 by omega] at hm
      have e : cm p q (b + 1) = cm p q a + mlk p q a b := by unfold mlk; omega
      unfold sm
      rw [this, e, Nat.add_mul]
      omega
  have := h2 p (Nat.le_refl _)
  omega
section Ty
variable {g : QG} {h : Hp} {K : Int32 → Hp → Prop} {KV : Hp → Prop}
theorem c_mlt {p t m : Nat} (hp : p ≤ 12) (hp0 : 0 < p) (ht : t < p) (hm : m ≤ 100) (e : h 1 0 = nI p) (hK : K (nI (cm p t m)) h) : FI g mX2_minutesLikeTo [.ref 20, .int (nI t), .int (eI m)] h K := by
  unfold cm at hK
  refine eX2_minutesLikeTo (vX2_minutesLikeTo_0 ?_)
  rw [e, i_lt, eI_toInt (by omega), nI_toInt (by omega)]
  refine ⟨fun hc => ?_, fun hc => ⟨fun _ => ⟨nI_ne0 hp0 (by omega), ?_⟩, fun hd => absurd (nI_le (a := 1) (by omega) (by omega)) hd⟩⟩
  · rw [if_pos (by omega)] at hK; exact hK
  · rw [if_neg (by omega)] at hK
    have e1 : eI m - nI t = nI (m - 1 - t) := by
      obtain ⟨q, rfl⟩ : ∃ q, m = q + 1 := ⟨m - 1, by omega⟩
      rw [show eI (q + 1) = nI q from nI_pred q, pk_sub (by omega), Nat.add_sub_cancel]
    rw [e1, pk_div (by omega) hp0 (by omega), nI_1]
    exact hK
theorem c_minutesLike {p t a b : Nat} (hp : p ≤ 12) (hp0 : 0 < p) (ht : t < p) (hab : a ≤ b) (hb : b ≤ 99) (e : h 1 0 = nI p) (hK : K (nI (mlk p t a b)) h) : FI g mX2_minutesLike [.ref 20, .int (nI t), .int (nI a), .int (nI b)] h K := by
  refine eX2_minutesLike (vX2_minutesLike_0 ?_)
  rw [show nI b = eI (b + 1) from (nI_pred b).symm]
  refine c_mlt hp hp0 ht (by omega) e (c_mlt hp hp0 ht (by omega) e ?_)
  have hm := cm_mono (p := p) (t := t) (a := a) (by omega) ht (b + 1 - a) (by omega)
  rw [show a + (b + 1 - a) = b + 1 by omega] at hm
  rw [pk_sub hm]
  exact hK
theorem l_addTimes {n S : Nat} {v : Int32} {h0 : Hp} (hn : n ≤ 6) (hS : S < 64) (e : h0 1 2 = nI n) (kk : ∀ h2 : Hp, Only [23] h0 h2 → (∀ k, k < n → h2 23 k = if S.testBit k = true then h0 23 k + v else h0 23 k) → KV h2) : ∀ (d i : Nat) (h : Hp), n - i = d → i ≤ n → Only [23] h0 h → (∀ k, k < i → h 23 k = if S.testBit k = true then h0 23 k + v else h0 23 k) → (∀ k, i ≤ k → h 23 k = h0 23 k) → wX2_addTimes_2 g KV h (nI S) v (nI i) := by
  intro d
  induction d with
  | zero =>
    intro i h hd hi ho a1 a2
    have e2 : i = n := by omega
    subst e2
    exact vX2_addTimes_2 ⟨fun _ => kk h ho a1, fun hc => absurd (by rw [ho 1 (by decide), e]; exact nI_le (Nat.le_refl _) (by omega)) hc⟩
  | succ d ih =>
    intro i h hd hi ho a1 a2
    refine vX2_addTimes_2 ⟨fun hc => ?_, fun _ => ?_⟩
    · rw [ho 1 (by decide), e, nI_leI (by omega) (by omega)] at hc; omega
    · refine c_holds (by omega) (by omega) (br_b (fun e1 => ?_) (fun e1 => ⟨vp_in_nI (by omega) (by decide), vp_in_nI (by omega) (by decide), ?_⟩))
      · rw [nI_1]
        refine ih (i + 1) h (by omega) (by omega) ho (fun k hk => ?_) (fun k hk => a2 k (by omega))
        by_cases ek : k = i
        · subst ek; rw [e1, a2 k (Nat.le_refl _)]; rfl
        · exact a1 k (by omega)
      · rw [ix_nI (by omega), nI_1]
        refine ih (i + 1) _ (by omega) (by omega) (ho.trans (Only.up (by decide))) (fun k hk => ?_) (fun k hk => by rw [up_row _ _ _ _ (by omega)]; exact a2 k (by omega))
        by_cases ek : k = i
        · subst ek; rw [up_at, e1, a2 k (Nat.le_refl _)]; rfl
        · rw [up_row _ _ _ _ ek]; exact a1 k (by omega)
/-- who stands at minute t -/
noncomputable abbrev sT (p n : Nat) (kd sg pc wy : Nat → Nat) (c A : Nat) : Nat → Nat := fun t => SS p n kd (atT p sg pc wy t) c A
theorem sT_per {p n : Nat} {kd sg pc wy : Nat → Nat} {c A t : Nat} : sT p n kd sg pc wy c A (t % p) = sT p n kd sg pc wy c A t := by
  show SS p n kd (atT p sg pc wy (t % p)) c A = _
  rw [atT_per]
theorem sm_le {p t a b k : Nat} {S : Nat → Nat} (hp : p < 13) (hp0 : 0 < p) (hS : ∀ t, S (t % p) = S t) (hab : a ≤ b) (hb : b ≤ 99) : ∀ q, q ≤ p → sm (fun t => mlk p t a b * bt (S t) k) q ≤ 100 := by
  have mono : ∀ d q, q + d = p → sm (fun t => mlk p t a b * bt (S t) k) q ≤ sm (fun t => mlk p t a b * bt (S t) k) p := by
    intro d
    induction d with
    | zero => intro q hq; rw [show q = p by omega]; exact Nat.le_refl _
    | succ d ih =>
      intro q hq
      have := ih (q + 1) (by omega)
      have : sm (fun t => mlk p t a b * bt (S t) k) q ≤ sm (fun t => mlk p t a b * bt (S t) k) (q + 1) := by
        show _ ≤ sm _ q + _
        omega
      omega
  intro q hq
  have h1 := mono (p - q) q (by omega)
  have h2 := tal_mlk (k := k) hp hp0 hS hab hb
  have h3 := tal_le S k a (b + 1 - a)
  omega
theorem l_tally {p n a b A c : Nat} {kd sg pc wy : Nat → Nat} {h0 : Hp} (hab : a ≤ b) (hb : b ≤ 99) (hA : A < 2 ^ n) (hc : c < 4096) (kk : ∀ h2 : Hp, Only [16, 17, 18, 19, 23] h0 h2 → (∀ k, k < n → h2 23 k = nI (tal (sT p n kd sg pc wy c A) k a (b + 1 - a))) → KV h2) : ∀ (d i : Nat) (h : Hp), p - i = d → i ≤ p → Only [16, 17, 18, 19, 23] h0 h → XD h p n kd sg → XW h n pc wy → h 20 5 = nI A → h 20 6 = nI c → (∀ k, k < n → h 23 k = nI (sm (fun t => mlk p t a b * bt (sT p n kd sg pc wy c A t) k) i)) → wX2_tally_10 g KV h (nI a) (nI b) (nI i) := by
  intro d
  induction d with
  | zero =>
    intro i h hd hi ho hX hW e5 e6 hv
    have e2 : i = p := by omega
    subst e2
    refine vX2_tally_10 ⟨fun _ => kk h ho (fun k hk => ?_), fun hx => absurd (by rw [hX.2.2.2.1]; exact nI_le (Nat.le_refl _) (by have := hX.1; omega)) hx⟩
    rw [hv k hk, tal_mlk (by have := hX.1; omega) hX.2.2.1 (fun t => sT_per) hab hb]
  | succ d ih =>
    intro i h hd hi ho hX hW e5 e6 hv
    have hp := hX.1
    have hn := hX.2.1
    have hp0 := hX.2.2.1
    refine vX2_tally_10 ⟨fun hx => ?_, fun _ => ?_⟩
    · rw [hX.2.2.2.1, nI_leI (by omega) (by omega)] at hx; omega
    · have hml : mlk p i a b ≤ 100 := by
        have := cm_le (p := p) (t := i) (by omega) (by omega) (b + 1) (by omega)
        unfold mlk; omega
      refine c_minutesLike hp hp0 (by omega) hab hb hX.2.2.2.1 ⟨fun hx => ?_, fun hx => ?_⟩
      · rw [show (0 : Int32) = nI 0 from rfl, nI_leI (by omega) (by decide)] at hx
        rw [nI_1]
        refine ih (i + 1) h (by omega) (by omega) ho hX hW e5 e6 (fun k hk => ?_)
        rw [hv k hk]
        show nI (sm _ i) = nI (sm _ i + mlk p i a b * _)
        rw [show mlk p i a b = 0 by omega, Nat.zero_mul, Nat.add_zero]
      · refine c_goTo (by omega) hX hW (fun h2 o2 v2 => ?_)
        rw [o2 20 (by decide), e5, e6]
        refine c_settle (XD.xt (hX.keep o2 (by decide)) v2) hA hc (fun h3 S u o3 x3 hD hSt hS64 => ?_)
        have es : S = sT p n kd sg pc wy c A i := StR.ss ⟨fset kd 2 n, u, fset_fnt n kd, hD, hSt⟩
        have o23 : Only [16, 17, 18, 19] h h3 := (o2.weaken (by decide)).trans (o3.weaken (by decide))
        refine eX2_addTimes (vX2_addTimes_0 (l_addTimes (g := g) hn hS64 (by rw [o23 1 (by decide)]; exact hX.2.2.2.2.1) (fun h4 o4 v4 => ?_) n 0 h3 rfl (Nat.zero_le _) (Only.rf _) (fun k hk => by omega) (fun _ _ => rfl)))
        have o24 : Only [16, 17, 18, 19, 23] h h4 := (o23.weaken (by decide)).trans (o4.weaken (by decide))
        rw [nI_1]
        refine ih (i + 1) h4 (by omega) (by omega) (ho.trans o24) (hX.keep o24 (by decide)) (hW.keep o24 (by decide)) (by rw [o24 20 (by decide)]; exact e5) (by rw [o24 20 (by decide)]; exact e6) (fun k hk => ?_)
        rw [v4 k hk, o23 23 (by decide), hv k hk]
        show _ = nI (sm _ i + mlk p i a b * bt (sT p n kd sg pc wy c A i) k)
        rw [← es, bt_if]
        split
        · rw [nI_add, Nat.mul_one]
        · rw [Nat.mul_zero, Nat.add_zero]
theorem c_tally {p n a b A c : Nat} {kd sg pc wy : Nat → Nat} (hab : a ≤ b) (hb : b ≤ 99) (hA : A < 2 ^ n) (hc : c < 4096) (hX : XD h p n kd sg) (hW : XW h n pc wy) (e5 : h 20 5 = nI A) (e6 : h 20 6 = nI c) (kk : ∀ h2 : Hp, Only [16, 17, 18, 19, 23] h h2 → (∀ k, k < n → h2 23 k = nI (tal (sT p n kd sg pc wy c A) k a (b + 1 - a))) → KV h2) : FV g mX2_tally [.ref 20, .int (nI a), .int (nI b)] h KV := by
  refine eX2_tally (vX2_tally_0 (c_fill23 (fun h1 o1 v1 => ?_)))
  have hn := hX.2.1
  refine l_tally (g := g) hab hb hA hc (h0 := h) kk p 0 h1 rfl (Nat.zero_le _) (o1.weaken (by decide)) (hX.keep o1 (by decide)) (hW.keep o1 (by decide)) (by rw [o1 20 (by decide)]; exact e5) (by rw [o1 20 (by decide)]; exact e6) (fun k hk => ?_)
  rw [v1 k (by omega)]
  rfl
theorem l_minutesOf {p n c k a m : Nat} {kd sg pc wy : Nat → Nat} {h0 : Hp} (hk : k < n) (ham : a + m ≤ 100) (hc : c < 4096) (kk : ∀ h2 : Hp, OnlyM [54, 55, 56] [23, 24, 25] h0 h2 → K (nI (tal (sT p n kd sg pc wy c (2 ^ n - 1)) k a m)) h2) (hm : 0 < m) : ∀ (d i : Nat) (h : Hp), m - i = d → i ≤ m → OnlyM [54, 55, 56] [23, 24, 25] h0 h → MDt h p n kd sg pc wy → h 44 7 = nI c → wX8_minutesOf_6 g K h (nI k) (nI (a + m - 1)) (nI (tal (sT p n kd sg pc wy c (2 ^ n - 1)) k a i)) (nI (a + i)) := by
  intro d
  induction d with
  | zero =>
    intro i h hd hi ho hM e7
    have e2 : i = m := by omega
    subst e2
    refine vX8_minutesOf_6 ⟨fun _ => kk h ho, fun hx => absurd (nI_lt (by omega) (by omega)) hx⟩
  | succ d ih =>
    intro i h hd hi ho hM e7
    have hn := hM.2.1
    have htl := tal_le (sT p n kd sg pc wy c (2 ^ n - 1)) k a i
    refine vX8_minutesOf_6 ⟨fun hx => ?_, fun _ => ?_⟩
    · rw [nI_ltI (by omega) (by omega)] at hx; omega
    · refine c_standingAt (by omega) hM hc e7 (fun h2 u u2 o2 _ _ _ h64 => ?_)
      have nx := ih (i + 1) h2 (by omega) (by omega) (ho.trans o2) (hM.keep o2 (by decide) (by decide)) (by rw [o2.2 7 (by decide)]; exact e7)
      rw [tal, bt_if] at nx
      rw [← Nat.add_assoc] at nx
      refine c_has (by omega) (by omega) (br_b (fun e1 => ?_) (fun e1 => ?_))
      · rw [if_neg (by rw [show (sT p n kd sg pc wy c (2 ^ n - 1) (a + i)).testBit k = false from e1]; decide), Nat.add_zero] at nx
        rw [Int32.add_zero, nI_1]; exact nx
      · rw [if_pos e1] at nx
        rw [nI_1, nI_1]; exact nx
theorem c_minutesOf {p n c k a b : Nat} {kd sg pc wy : Nat → Nat} (hk : k < n) (hab : a ≤ b) (hb : b ≤ 99) (hc : c < 4096) (hM : MDt h p n kd sg pc wy) (e7 : h 44 7 = nI c) (kk : ∀ h2 : Hp, OnlyM [54, 55, 56] [23, 24, 25] h h2 → K (nI (tal (sT p n kd sg pc wy c (2 ^ n - 1)) k a (b + 1 - a))) h2) : FI g mX8_minutesOf [.ref 44, .int (nI k), .int (nI a), .int (nI b)] h K := by
  refine eX8_minutesOf (vX8_minutesOf_0 ?_)
  have := l_minutesOf (g := g) (K := K) (m := b + 1 - a) hk (by omega) hc kk (by omega) (b + 1 - a) 0 h rfl (Nat.zero_le _) (OnlyM.rf h) hM e7
  rw [show a + (b + 1 - a) - 1 = b by omega] at this
  exact this
end Ty
