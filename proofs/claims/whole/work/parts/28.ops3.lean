/-! place, as -/
section O3
variable {g : QG} {h : Hp} {K : Int32 → Hp → Prop}
theorem l_who {n q : Nat} (hn : n ≤ 6) (hK : K (nI (pset (fun k => decide (h 27 k = nI q)) n)) h) : ∀ (d i : Nat), n - i = d → i ≤ n → wX0_whoIsAt_5 g K h (nI q) (nI n) (nI (pset (fun k => decide (h 27 k = nI q)) i)) (nI i) := by
  intro d
  induction d with
  | zero =>
    intro i hd hi
    have e : i = n := by omega
    subst e
    exact vX0_whoIsAt_5 ⟨fun _ => hK, fun hc => absurd (nI_le (Nat.le_refl _) (by omega)) hc⟩
  | succ d ih =>
    intro i hd hi
    have hf := p64 (show i ≤ 6 by omega) (pset_lt (fun k => decide (h 27 k = nI q)) i)
    have nx := ih (i + 1) (by omega) (by omega)
    rw [pset] at nx
    refine vX0_whoIsAt_5 ⟨fun hc => ?_, fun _ => ⟨vp_in_nI (by omega) (by decide), ?_⟩⟩
    · rw [nI_leI (by omega) (by omega)] at hc; omega
    · rw [ix_nI (by omega)]
      refine ⟨fun hc => ?_, fun hc => ?_⟩
      · rw [decide_eq_false hc, if_neg (by decide), Nat.or_zero] at nx
        rw [nI_1]; exact nx
      · rw [decide_eq_true hc, if_pos rfl] at nx
        rw [a_shl1 (by omega), a_or (by omega) (Nat.lt_of_lt_of_le (p_lt (n := 6) (by omega)) (by decide)), nI_1]; exact nx
theorem l_mplace {n q p c : Nat} {b : Int32} (hn : n ≤ 6) (hq : q < p) (hp : p ≤ 12) (e13 : h 44 13 = nI n) (e7 : h 44 7 = nI c) (hc : c < 4096) (ho : HoR h 26 0 p n)
    (kk : (¬ b = 0 → (¬ b = 1 → (¬ b = 2 → K (-3) h) ∧ (b = 2 → K (nI (pset (fun k => decide (h 45 (3 + k) = nI q)) n)) h)) ∧ (b = 1 → K (h 29 q) h)) ∧ (b = 0 → K (bi (c.testBit q)) h)) : ∀ (d i : Nat) (a3 : Int32), n - i = d → i ≤ n → ((a3 = -1 ∧ ∀ k, k < i → ¬ (h 45 (9 + k) = nI q ∨ h 45 (15 + k) = nI q)) ∨ (a3 = h 29 q ∧ ∃ k, k < i ∧ (h 45 (9 + k) = nI q ∨ h 45 (15 + k) = nI q))) → wX8_place_19 g K h (nI q) b a3 (nI (pset (fun k => decide (h 45 (3 + k) = nI q)) i)) (nI i) := by
  obtain ⟨ho1, ho2⟩ := ho q hq
  have ho1 : ∀ k, k < n → (h 45 (9 + k) = nI q ∨ h 45 (15 + k) = nI q) → h 29 q = nI k := fun k hk hh => ho1 k hk (by rw [Nat.zero_add, Nat.zero_add]; exact hh)
  intro d
  induction d with
  | zero =>
    intro i a3 hd hi ha
    have e : i = n := by omega
    subst e
    have e3 : a3 = h 29 q := by
      rcases ha with ⟨ha, hno⟩ | ⟨ha, -⟩
      · rcases ho2 with h2 | ⟨k, hk, -, h2⟩
        · rw [ha]; exact h2.symm
        · rw [Nat.zero_add, Nat.zero_add] at h2
          exact absurd h2 (hno k hk)
      · exact ha
    refine vX8_place_19 ⟨fun _ => ⟨fun n0 => ⟨fun n1 => ⟨fun n2 => ((kk.1 n0).1 n1).1 n2, fun q2 => ((kk.1 n0).1 n1).2 q2⟩, fun q1 => by rw [e3]; exact (kk.1 n0).2 q1⟩, fun q0 => ?_⟩, fun hx => absurd (by rw [e13]; exact nI_le (Nat.le_refl _) (by omega)) hx⟩
    rw [e7, a_bitv (by omega) (by omega)]
    exact kk.2 q0
  | succ d ih =>
    intro i a3 hd hi ha
    have hf := p64 (show i ≤ 6 by omega) (pset_lt (fun k => decide (h 45 (3 + k) = nI q)) i)
    have i9 : (9 : Int32) + nI i = nI (9 + i) := nI_add 9 i
    have i15 : (15 : Int32) + nI i = nI (15 + i) := nI_add 15 i
    have i3 : (3 : Int32) + nI i = nI (3 + i) := nI_add 3 i
    have go62 : ∀ s0 : Int32, ((s0 = -1 ∧ ∀ k, k < i + 1 → ¬ (h 45 (9 + k) = nI q ∨ h 45 (15 + k) = nI q)) ∨ (s0 = h 29 q ∧ ∃ k, k < i + 1 ∧ (h 45 (9 + k) = nI q ∨ h 45 (15 + k) = nI q))) → wX8_place_62 g K h (nI q) b (nI (pset (fun k => decide (h 45 (3 + k) = nI q)) i)) (nI i) s0 := by
      intro s0 hs
      have nx := ih (i + 1) s0 (by omega) (by omega) hs
      rw [pset] at nx
      refine vX8_place_62 ⟨by rw [i3]; exact vp_in_nI (by omega) (by decide), ?_⟩
      rw [i3, ix_nI (by omega)]
      refine ⟨fun hc => ?_, fun hc => ?_⟩
      · rw [decide_eq_false hc, if_neg (by decide), Nat.or_zero] at nx
        rw [i_or0, nI_1]; exact nx
      · rw [decide_eq_true hc, if_pos rfl] at nx
        rw [a_shl1 (by omega), a_or (by omega) (Nat.lt_of_lt_of_le (p_lt (n := 6) (by omega)) (by decide)), nI_1]; exact nx
    refine vX8_place_19 ⟨fun hx => ?_, fun _ => ⟨by rw [i9]; exact vp_in_nI (by omega) (by decide), ?_⟩⟩
    · rw [e13, nI_leI (by omega) (by omega)] at hx; omega
    · rw [i9, i15, ix_nI (by omega), ix_nI (by omega)]
      have hit : (h 45 (9 + i) = nI q ∨ h 45 (15 + i) = nI q) → nI i = h 29 q ∧ ∃ k, k < i + 1 ∧ (h 45 (9 + k) = nI q ∨ h 45 (15 + k) = nI q) := fun hh => ⟨(ho1 i (by omega) hh).symm, i, by omega, hh⟩
      refine ⟨fun hx => go62 _ (Or.inr (hit (Or.inl hx))), fun hx => ⟨vp_in_nI (by omega) (by decide), fun hy => go62 _ ?_, fun hy => go62 _ (Or.inr (hit (Or.inr hy)))⟩⟩
      rcases ha with ⟨ha, hno⟩ | ⟨ha, k, hk, hh⟩
      · refine Or.inl ⟨ha, fun k hk => ?_⟩
        by_cases e : k = i
        · subst e; rintro (z | z)
          · exact hx z
          · exact hy z
        · exact hno k (by omega)
      · exact Or.inr ⟨ha, k, by omega, hh⟩
theorem op_place {a b : Int32} (hS : Sim h) : FI g mX7_place [.ref 0, .int a, .int b] h (fun r h1 => FI g mX8_place [.ref 44, .int a, .int b] h1 (fun r2 h2 => r = r2 ∧ Sim h2)) := by
  obtain ⟨p, n, c, kd, sg, pc, wy, wt, hT, hX, hE, hK1, hK2, hN⟩ := (Sim.iff h).mp hS
  have hn := hT.1.2.2.1
  have hp := hT.1.2.1
  obtain ⟨-, -, -, hq, ho⟩ := hE
  refine eX7_place (vX7_place_0 (c_hasPlace1 (by omega) hT.2.1.1 (br_b' (fun e1 => ?_) (fun e1 => ?_))))
  · exact eX8_place (vX8_place_0 (c_isPlace (by omega) hT.2.2.1.1 (br_b' (fun _ => ⟨rfl, hS⟩) (fun z => by rw [e1] at z; cases z))))
  · obtain ⟨q, hqp, rfl⟩ := blw_of e1
    have go : ∀ {r : Int32}, ((¬ b = 0 → (¬ b = 1 → (¬ b = 2 → r = -3) ∧ (b = 2 → r = nI (pset (fun k => decide (h 45 (3 + k) = nI q)) n))) ∧ (b = 1 → r = h 29 q)) ∧ (b = 0 → r = bi (c.testBit q))) → FI g mX8_place [.ref 44, .int (nI q), .int b] h (fun r2 h2 => r = r2 ∧ Sim h2) := by
      intro r hr
      refine eX8_place (vX8_place_0 (c_isPlace (p := p) (by omega) hT.2.2.1.1 (br_b' (fun z => by rw [e1] at z; cases z) (fun _ => ?_))))
      exact l_mplace (g := g) (c := c) hn hqp hp hT.2.2.1.2.2 hT.2.2.1.2.1 hT.c4 ho ⟨fun n0 => ⟨fun n1 => ⟨fun n2 => ⟨((hr.1 n0).1 n1).1 n2, hS⟩, fun q2 => ⟨((hr.1 n0).1 n1).2 q2, hS⟩⟩, fun q1 => ⟨(hr.1 n0).2 q1, hS⟩⟩, fun q0 => ⟨hr.2 q0, hS⟩⟩ n 0 (-1) rfl (Nat.zero_le _) (Or.inl ⟨rfl, fun k hk => by omega⟩)
    refine ⟨fun q0 => ?_, fun n0 => ⟨fun q1 => ⟨vp_in_nI (by omega) (by decide), ?_⟩, fun n1 => ⟨fun q2 => ?_, fun n2 => ?_⟩⟩⟩
    · refine eX6_hasChair_r1 (vX6_hasChair_r1_0 (c_hasPlace1 (p := p) (by omega) hT.2.1.1 (br_b (fun z => by rw [e1] at z; cases z) (fun _ => ?_))))
      rw [hT.2.1.2.1]
      refine c_holds (by have := hT.c4; omega) (by omega) (br_b (fun e2 => ⟨fun _ => go ⟨fun z => absurd q0 z, fun _ => by rw [e2]; rfl⟩, fun z => absurd rfl z⟩) (fun e2 => ⟨fun z => absurd z (by decide), fun _ => go ⟨fun z => absurd q0 z, fun _ => by rw [e2]; rfl⟩⟩))
    · rw [ix_nI (by omega)]
      exact go ⟨fun _ => ⟨fun z => absurd q1 z, fun _ => rfl⟩, fun z => absurd z n0⟩
    · rw [hT.2.1.2.2]
      refine eX0_whoIsAt (vX0_whoIsAt_0 (l_who (g := g) hn (go ⟨fun _ => ⟨fun _ => ⟨fun z => absurd q2 z, fun _ => ?_⟩, fun z => absurd z n1⟩, fun z => absurd z n0⟩) n 0 rfl (Nat.zero_le _)))
      congr 1
      apply Nat.eq_of_testBit_eq
      intro k
      rw [pset_tb, pset_tb]
      by_cases hk : k < n
      · obtain ⟨⟨av, -, a1, a2⟩, -⟩ := hq k hk
        rw [show h 27 k = _ from a1, show h 45 (3 + k) = nI av from by rw [← a2, Nat.zero_add]]
      · simp [hk]
    · exact go ⟨fun _ => ⟨fun _ => ⟨fun _ => rfl, fun z => absurd z n2⟩, fun z => absurd z n1⟩, fun z => absurd z n0⟩
/-- least effort to a chair -/
def Lef (c Q : Nat) (e : Nat → Nat) (v : Int32) : Prop := (v = eI 100 ∧ ∀ q, q < Q → c.testBit q = false) ∨ ∃ q0, q0 < Q ∧ c.testBit q0 = true ∧ v = eI (e q0) ∧ ∀ q, q < Q → c.testBit q = true → e q0 ≤ e q
theorem l_mas {p n k c av : Nat} {kd : Nat → Nat} (hp : p ≤ 12) (hk6 : k < 6) (hav : av < p) (e6 : h 44 6 = nI p) (e7 : h 44 7 = nI c) (hc : c < 4096) (ek : h 49 k = nI (kd k)) (hkd : kd k ≤ 3) (ea : h 45 (3 + k) = nI av)
    (kn : (∀ q, q < p → c.testBit q = false) → K (-1) h) (ky : ∀ q0, q0 < p → c.testBit q0 = true → (∀ q, q < p → c.testBit q = true → ef p kd (fun _ => av) k q0 ≤ ef p kd (fun _ => av) k q) → K (100 + eI (ef p kd (fun _ => av) k q0)) h) : ∀ (d Q : Nat) (v : Int32), p - Q = d → Q ≤ p → Lef c Q (ef p kd (fun _ => av) k) v → wX8_as_99 g K h (nI k) v (nI Q) := by
  have hlt : ∀ q, q < p → ef p kd (fun _ => av) k q < 99 := fun q hq => by
    have := ef_le (p := p) (kd := kd) (at_ := fun _ => av) (g := k) (q := q) hav hq
    omega
  have e99 : (99 : Int32) = eI 100 := by decide
  intro d
  induction d with
  | zero =>
    intro Q v hd hQ hl
    have e : Q = p := by omega
    subst e
    refine vX8_as_99 ⟨fun _ => ?_, fun hx => absurd (by rw [e6]; exact nI_le (Nat.le_refl _) (by omega)) hx⟩
    rcases hl with ⟨hv, hno⟩ | ⟨q0, h1, h2, hv, h3⟩
    · refine ⟨fun hx => absurd (by rw [hv, e99]) hx, fun _ => kn hno⟩
    · refine ⟨fun _ => by rw [hv]; exact ky q0 h1 h2 h3, fun hx => ?_⟩
      rw [hv, e99] at hx
      have := (eI_le (a := 100) (b := ef Q kd (fun _ => av) k q0) (by decide) (by have := hlt q0 h1; omega)).mp (by rw [hx]; exact Int32.le_refl _)
      have := hlt q0 h1
      omega
  | succ d ih =>
    intro Q v hd hQ hl
    have hQp : Q < p := by omega
    have go140 : ∀ s0 : Int32, (v ≤ s0 → Lef c (Q + 1) (ef p kd (fun _ => av) k) v) → (¬ v ≤ s0 → Lef c (Q + 1) (ef p kd (fun _ => av) k) s0) → wX8_as_140 g K h (nI k) v (nI Q) s0 := by
      intro s0 h1 h2
      refine vX8_as_140 ⟨fun hx => ?_, fun hx => ?_⟩
      · rw [nI_1]; exact ih (Q + 1) v (by omega) (by omega) (h1 hx)
      · rw [nI_1]; exact ih (Q + 1) s0 (by omega) (by omega) (h2 hx)
    refine vX8_as_99 ⟨fun hx => ?_, fun _ => ?_⟩
    · rw [e6, nI_leI (by omega) (by omega)] at hx; omega
    · rw [e7]
      have i3 : (3 : Int32) + nI k = nI (3 + k) := nI_add 3 k
      refine c_has (by omega) (by omega) (br_b (fun e1 => ?_) (fun e1 => ⟨by rw [i3]; exact vp_in_nI (by omega) (by decide), ?_⟩))
      · rw [e99]
        have hle : v ≤ eI 100 := by
          rcases hl with ⟨hv, -⟩ | ⟨q0, h1, h2, hv, h3⟩
          · rw [hv]; exact Int32.le_refl _
          · rw [hv, eI_le (by have := hlt q0 (by omega); omega) (by decide)]; have := hlt q0 (by omega); omega
        refine go140 _ (fun _ => ?_) (fun hx => absurd hle hx)
        rcases hl with ⟨hv, hno⟩ | ⟨q0, h1, h2, hv, h3⟩
        · refine Or.inl ⟨hv, fun q hq => ?_⟩
          by_cases e : q = Q
          · rw [e]; exact e1
          · exact hno q (by omega)
        · refine Or.inr ⟨q0, by omega, h2, hv, fun q hq hb => ?_⟩
          by_cases e : q = Q
          · rw [e, e1] at hb; cases hb
          · exact h3 q (by omega) hb
      · rw [i3, ix_nI (by omega), ea]
        refine c_effort (at_ := fun _ => av) (kd := kd) hp hk6 hav hQp e6 rfl (by omega) ek ?_
        have hQ99 := hlt Q hQp
        rcases hl with ⟨hv, hno⟩ | ⟨q0, h1, h2, hv, h3⟩
        · refine go140 _ (fun hx => ?_) (fun _ => Or.inr ⟨Q, by omega, e1, rfl, fun q hq hb => ?_⟩)
          · rw [hv, eI_le (by decide) (by omega)] at hx; omega
          · by_cases e : q = Q
            · rw [e]; exact Nat.le_refl _
            · rw [hno q (by omega)] at hb; cases hb
        · have hq99 := hlt q0 (by omega)
          refine go140 _ (fun hx => Or.inr ⟨q0, by omega, h2, hv, fun q hq hb => ?_⟩) (fun hx => Or.inr ⟨Q, by omega, e1, rfl, fun q hq hb => ?_⟩)
          · rw [hv, eI_le (by omega) (by omega)] at hx
            by_cases e : q = Q
            · rw [e]; exact hx
            · exact h3 q (by omega) hb
          · rw [hv, eI_le (by omega) (by omega)] at hx
            by_cases e : q = Q
            · rw [e]; exact Nat.le_refl _
            · have := h3 q (by omega) hb; omega
theorem l_near {p c av : Nat} (hp : p ≤ 12) (hav : av < p) (e0 : h 1 0 = nI p) (e1 : h 1 1 = nI c) (hc : c < 4096) (kn : (∀ q, q < p → c.testBit q = false) → K (-1) h) (ky : ∀ q0, q0 < p → c.testBit q0 = true → (∀ q, q < p → c.testBit q = true → dst p av q0 ≤ dst p av q) → K (nI (dst p av q0)) h) : ∀ (d aw : Nat), p / 2 + 1 - aw = d → aw ≤ p / 2 + 1 → (∀ q, q < p → c.testBit q = true → aw ≤ dst p av q) → wX6_nearestChair_2 g K h (nI av) (nI aw) := by
  intro d
  induction d with
  | zero =>
    intro aw hd ha hr
    have e : aw = p / 2 + 1 := by omega
    refine vX6_nearestChair_2 (c_farthest (by omega) e0 ⟨fun _ => kn (fun r hr2 => ?_), fun hx => absurd (nI_lt (by omega) (by omega)) hx⟩)
    cases hb : c.testBit r with
    | false => rfl
    | true => have := hr r hr2 hb; have := dst_le hav hr2; omega
  | succ d ih =>
    intro aw hd ha hr
    refine vX6_nearestChair_2 (c_farthest (by omega) e0 ⟨fun hx => ?_, fun _ => ?_⟩)
    · rw [nI_ltI (by omega) (by omega)] at hx; omega
    · rw [e1, show nI aw = eI (aw + 1) from (nI_pred aw).symm]
      refine c_leastAt hp hav (by omega) hc e0 (fun hno => ⟨fun _ => ?_, fun hx => absurd rfl hx⟩) (fun r hr1 hr2 hr3 hr4 => ⟨fun hx => absurd hx (a_m1 r (by omega)), fun _ => ?_⟩)
      · rw [show eI (aw + 1) = nI aw from nI_pred aw, nI_1]
        refine ih (aw + 1) (by omega) (by omega) (fun r hr1 hb => ?_)
        have := hr r hr1 hb
        rcases Nat.lt_or_ge aw (dst p av r) with h5 | h5
        · exact h5
        · rw [hno r hr1 (by omega)] at hb; cases hb
      · rw [show eI (aw + 1) = nI (dst p av r) from by rw [← hr2]; exact nI_pred _]
        exact ky r hr1 hr3 (fun q hq hb => by have := hr q hq hb; omega)
/-- whether a kind is under another -/
def isK (v : Nat) (a : Int32) : Bool := if a = 0 then true else if a = 1 then decide (v ≠ 3) else if a = 2 then decide (v = 1) else if a = 3 then decide (v = 2) else decide (v = 3)
theorem c_isA {k v : Nat} {b : Int32} (hk : k < 6) (hv : v ≤ 3) (e : h 2 k = nI v) (hK : K (bi (isK v b)) h) : FI g mX6_isA [.ref 1, .int (nI k), .int b] h K := by
  have hi : vp_in (nI k) 6 := vp_in_nI hk (by decide)
  have q : ∀ w : Nat, w < 4 → ((nI v = nI w) ↔ v = w) := fun w hw => nI_eq (by omega) (by omega)
  unfold isK at hK
  refine eX6_isA (vX6_isA_0 ?_)
  rw [ix_nI (by omega), e, show (nI v = (3 : Int32)) ↔ v = 3 from q 3 (by decide), show (nI v = (1 : Int32)) ↔ v = 1 from q 1 (by decide), show (nI v = (2 : Int32)) ↔ v = 2 from q 2 (by decide)]
  refine ⟨fun q0 => ?_, fun n0 => ⟨fun q1 => ⟨hi, fun z => ?_, fun z => ?_⟩, fun n1 => ⟨fun q2 => ⟨hi, fun z => ?_, fun z => ?_⟩, fun n2 => ⟨fun q3 => ⟨hi, fun z => ?_, fun z => ?_⟩, fun n3 => ⟨hi, fun z => ?_, fun z => ?_⟩⟩⟩⟩⟩
  · rw [if_pos q0] at hK; exact hK
  · rw [if_neg n0, if_pos q1, decide_eq_false (by omega)] at hK; exact hK
  · rw [if_neg n0, if_pos q1, decide_eq_true z] at hK; exact hK
  · rw [if_neg n0, if_neg n1, if_pos q2, decide_eq_false z] at hK; exact hK
  · rw [if_neg n0, if_neg n1, if_pos q2, decide_eq_true z] at hK; exact hK
  · rw [if_neg n0, if_neg n1, if_neg n2, if_pos q3, decide_eq_false z] at hK; exact hK
  · rw [if_neg n0, if_neg n1, if_neg n2, if_pos q3, decide_eq_true z] at hK; exact hK
  · rw [if_neg n0, if_neg n1, if_neg n2, if_neg n3, decide_eq_false z] at hK; exact hK
  · rw [if_neg n0, if_neg n1, if_neg n2, if_neg n3, decide_eq_true z] at hK; exact hK
theorem k_mas {k v : Nat} {b : Int32} (hv : v ≤ 3) (hb : 0 ≤ b.toInt ∧ b.toInt ≤ 4) (kt : isK v b = true → wX8_as_99 g K h (nI k) 99 0) (kf : isK v b = false → K (-4) h) : (b = 0 → (¬ (1 : Int32) = 0 → wX8_as_99 g K h (nI k) 99 0) ∧ ((1 : Int32) = 0 → K (-4) h)) ∧ (¬ b = 0 → (¬ b = 1 → wX8_as_47 g K h (nI k) b (nI v)) ∧ (b = 1 → (¬ nI v = 3 → (¬ (1 : Int32) = 0 → wX8_as_99 g K h (nI k) 99 0) ∧ ((1 : Int32) = 0 → K (-4) h)) ∧ (nI v = 3 → wX8_as_47 g K h (nI k) b (nI v)))) := by
  have one : ¬ (1 : Int32) = 0 := by decide
  have T : ∀ {A : Prop}, A → (¬ (1 : Int32) = 0 → A) ∧ ((1 : Int32) = 0 → K (-4) h) := fun a => ⟨fun _ => a, fun z => absurd z one⟩
  have q : ∀ w : Nat, w < 4 → ((nI v = nI w) ↔ v = w) := fun w hw => nI_eq (by omega) (by omega)
  unfold isK at kt kf
  have d67 : ¬ b = 0 → ¬ b = 1 → ¬ b = 2 → ¬ b = 3 → wX8_as_67 g K h (nI k) b (nI v) := by
    intro n0 n1 n2 n3
    rw [if_neg n0, if_neg n1, if_neg n2, if_neg n3] at kt kf
    have b4 : b = 4 := by
      rw [i_eq] at n0 n1 n2 n3 ⊢
      have e0 : (0 : Int32).toInt = 0 := by decide
      have e1 : (1 : Int32).toInt = 1 := by decide
      have e2 : (2 : Int32).toInt = 2 := by decide
      have e3 : (3 : Int32).toInt = 3 := by decide
      have e4 : (4 : Int32).toInt = 4 := by decide
      omega
    refine vX8_as_67 ⟨fun z => absurd b4 z, fun _ => ?_⟩
    rw [show (nI v = (3 : Int32)) ↔ v = 3 from q 3 (by decide)]
    exact ⟨fun z => ⟨fun z2 => absurd rfl z2, fun _ => kf (decide_eq_false z)⟩, fun z => T (kt (decide_eq_true z))⟩
  have d57 : ¬ b = 0 → ¬ b = 1 → ¬ b = 2 → wX8_as_57 g K h (nI k) b (nI v) := by
    intro n0 n1 n2
    refine vX8_as_57 ⟨fun n3 => d67 n0 n1 n2 n3, fun q3 => ?_⟩
    rw [if_neg n0, if_neg n1, if_neg n2, if_pos q3] at kt kf
    rw [show (nI v = (2 : Int32)) ↔ v = 2 from q 2 (by decide)]
    refine ⟨fun z => T (kt (decide_eq_true z)), fun z => vX8_as_67 ⟨fun _ => ⟨fun z2 => absurd rfl z2, fun _ => kf (decide_eq_false z)⟩, fun z2 => ?_⟩⟩
    rw [q3] at z2
    exact absurd z2 (by decide)
  have d47 : ¬ b = 0 → (b = 1 → v = 3) → wX8_as_47 g K h (nI k) b (nI v) := by
    intro n0 h1
    by_cases q1 : b = 1
    · rw [if_neg n0, if_pos q1] at kf
      refine vX8_as_47 ⟨fun _ => vX8_as_57 ⟨fun _ => vX8_as_67 ⟨fun _ => ⟨fun z2 => absurd rfl z2, fun _ => kf (decide_eq_false (fun z => z (h1 q1)))⟩, fun z2 => ?_⟩, fun z2 => ?_⟩, fun z2 => ?_⟩ <;> (rw [q1] at z2; exact absurd z2 (by decide))
    · refine vX8_as_47 ⟨fun n2 => d57 n0 q1 n2, fun q2 => ?_⟩
      rw [if_neg n0, if_neg q1, if_pos q2] at kt kf
      rw [show (nI v = (1 : Int32)) ↔ v = 1 from q 1 (by decide)]
      refine ⟨fun z => T (kt (decide_eq_true z)), fun z => vX8_as_57 ⟨fun _ => vX8_as_67 ⟨fun _ => ⟨fun z2 => absurd rfl z2, fun _ => kf (decide_eq_false z)⟩, fun z2 => ?_⟩, fun z2 => ?_⟩⟩ <;> (rw [q2] at z2; exact absurd z2 (by decide))
  refine ⟨fun q0 => T (kt (by rw [if_pos q0])), fun n0 => ⟨fun n1 => d47 n0 (fun z => absurd z n1), fun q1 => ?_⟩⟩
  rw [show (nI v = (3 : Int32)) ↔ v = 3 from q 3 (by decide)]
  exact ⟨fun z => T (kt (by rw [if_neg n0, if_pos q1]; exact decide_eq_true z)), fun z => d47 n0 (fun _ => z)⟩
theorem op_as {a b : Int32} (hS : Sim h) : FI g mX7_as [.ref 0, .int a, .int b] h (fun r h1 => FI g mX8_as [.ref 44, .int a, .int b] h1 (fun r2 h2 => r = r2 ∧ Sim h2)) := by
  obtain ⟨p, n, c, kd, sg, pc, wy, wt, hT, hX, hE, hK1, hK2, hN⟩ := (Sim.iff h).mp hS
  have hn := hT.1.2.2.1
  have hp := hT.1.2.1
  obtain ⟨-, -, -, hq, -⟩ := hE
  have e0 : (0 : Int32).toInt = 0 := by decide
  have e4 : (4 : Int32).toInt = 4 := by decide
  have in4 : ∀ (hh : Hp) (K2 : Int32 → Hp → Prop), K2 (bi (decide (0 ≤ b.toInt ∧ b.toInt ≤ 4))) hh → FI g mX8_in [.long b.toInt64, .long (0 : Int64), .long (4 : Int64)] hh K2 := fun hh K2 hk => c_inI (by decide) (by decide) hk
  refine eX7_as (vX7_as_0 (c_hasGuest (by omega) hT.2.1.2.2 (br_b' (fun e1 => ?_) (fun e1 => ?_))))
  · exact eX8_as (vX8_as_0 (c_isGuest (by omega) hT.2.2.1.2.2 (br_b' (fun _ => ⟨rfl, hS⟩) (fun z => by rw [e1] at z; cases z))))
  · obtain ⟨k, hk, rfl⟩ := blw_of e1
    obtain ⟨t1, t2, t3, t4, t5⟩ := hT.2.2.2 k hk
    obtain ⟨⟨av, hav, a1, a2⟩, -⟩ := hq k hk
    have a2 : h 45 (3 + k) = nI av := by rw [← a2, Nat.zero_add]
    have bad : ¬ (0 ≤ b.toInt ∧ b.toInt ≤ 4) → FI g mX8_as [.ref 44, .int (nI k), .int b] h (fun r2 h2 => (-3 : Int32) = r2 ∧ Sim h2) := fun hb => eX8_as (vX8_as_0 (c_isGuest (n := n) (by omega) hT.2.2.1.2.2 (br_b' (fun z => by rw [e1] at z; cases z) (fun _ => in4 _ _ (br_b' (fun _ => ⟨rfl, hS⟩) (fun z => absurd (of_decide_eq_true z) hb))))))
    refine ⟨fun hc => bad (by rw [i_lt, e0] at hc; omega), fun hc => ⟨fun hd => ?_, fun hd => bad (by rw [i_le, e4] at hd; omega)⟩⟩
    rw [i_lt, e0] at hc
    rw [i_le, e4] at hd
    have hb : 0 ≤ b.toInt ∧ b.toInt ≤ 4 := by omega
    have mside : ∀ {r : Int32}, (isK (kd k) b = false → r = -4) → (isK (kd k) b = true → (∀ q, q < p → c.testBit q = false) → r = -1) → (isK (kd k) b = true → ∀ q0, q0 < p → c.testBit q0 = true → (∀ q, q < p → c.testBit q = true → ef p kd (fun _ => av) k q0 ≤ ef p kd (fun _ => av) k q) → r = 100 + eI (ef p kd (fun _ => av) k q0)) → FI g mX8_as [.ref 44, .int (nI k), .int b] h (fun r2 h2 => r = r2 ∧ Sim h2) := by
      intro r r1 r2 r3
      refine eX8_as (vX8_as_0 (c_isGuest (n := n) (by omega) hT.2.2.1.2.2 (br_b' (fun z => by rw [e1] at z; cases z) (fun _ => in4 _ _ (br_b' (fun z => absurd hb (of_decide_eq_false z)) (fun _ => ⟨vp_in_nI (by omega) (by decide), ?_⟩))))))
      rw [ix_nI (by omega), t1.2.1]
      refine k_mas t1.2.2 hb (fun hi => ?_) (fun hi => ⟨r1 hi, hS⟩)
      exact l_mas (g := g) (n := n) hp (by omega) hav hT.2.2.1.1 hT.2.2.1.2.1 hT.c4 t1.2.1 t1.2.2 a2 (fun hno => ⟨r2 hi hno, hS⟩) (fun q0 h1 h2 h3 => ⟨r3 hi q0 h1 h2 h3, hS⟩) p 0 _ rfl (Nat.zero_le _) (Or.inl ⟨by decide, fun q hq => by omega⟩)
    refine c_isA (by omega) t1.2.2 t1.1 (br_b' (fun hi => mside (fun _ => rfl) (fun z => by rw [hi] at z; cases z) (fun z => by rw [hi] at z; cases z)) (fun hi => ⟨vp_in_nI (by omega) (by decide), ?_⟩))
    rw [ix_nI (by omega), show h 27 k = _ from a1]
    refine eX6_nearestChair (vX6_nearestChair_0 (l_near (g := g) hp hav hT.2.1.1 hT.2.1.2.1 hT.c4 (fun hno => ⟨fun z => absurd rfl z, fun _ => mside (fun z => by rw [hi] at z; cases z) (fun _ _ => rfl) (fun _ q0 h1 h2 _ => by rw [hno q0 h1] at h2; cases h2)⟩) (fun q0 h1 h2 h3 => ⟨fun _ => ?_, fun z => absurd z (a_m1 _ (by have := dst_le hav h1; omega))⟩) _ 0 rfl (Nat.zero_le _) (fun q _ _ => Nat.zero_le _)))
    refine c_ease (by omega) (by have := t1.2.2; omega) t1.1 (mside (fun z => by rw [hi] at z; cases z) (fun _ hno => by rw [hno q0 h1] at h2; cases h2) (fun _ q1 g1 g2 g3 => ?_))
    have ed : dst p av q1 = dst p av q0 := by
      have x1 := h3 q1 g1 g2
      have x2 := g3 q0 h1 h2
      unfold ef at x2
      dsimp only at x2
      split at x2 <;> omega
    unfold ef
    dsimp only
    rw [ed]
    by_cases hs : kd k = 1
    · rw [if_pos hs, Nat.add_sub_cancel]
      unfold eI
      rw [show nI 1 = (1 : Int32) from rfl, Int32.sub_eq_add_neg, Int32.sub_eq_add_neg, Int32.add_assoc]
    · rw [if_neg hs, Nat.sub_zero, show eI (dst p av q0 + 1) = nI (dst p av q0) from nI_pred _, nI_0, Int32.sub_zero]
end O3
