/-! walk, play, keep, back -/
theorem EvR.mv {h h2 : Hp} {e o e2 o2 p n : Nat} (a : EvR h e o p n) (hn : n ≤ 6) (hp : p ≤ 12) (c0 : h2 e2 0 = h e 0 ∧ h2 e2 1 = h e 1 ∧ h2 e2 3 = h e 3) (c1 : ∀ j, j < 6 → h2 (e2 + 1) j = h (e + 1) j) (c2 : ∀ j, j < 6 → h2 (e2 + 2) j = h (e + 2) j) (c3 : ∀ j, j < 12 → h2 (e2 + 3) j = h (e + 3) j) (c4 : ∀ j, j < 6 → h2 (e2 + 4) j = h (e + 4) j) (r : ∀ j, j < 27 → h2 45 (o2 + j) = h 45 (o + j)) : EvR h2 e2 o2 p n := by
  obtain ⟨⟨t, t1, t2, t3⟩, ⟨b, b1, b2⟩, s, q, ho⟩ := a
  refine ⟨⟨t, t1, c0.1.trans t2, (r 0 (by decide)).trans t3⟩, ⟨b, c0.2.1.trans b1, (r 1 (by decide)).trans b2⟩, c0.2.2.trans (s.trans (r 2 (by decide)).symm), fun k hk => ?_, fun q hq => ?_⟩
  · obtain ⟨⟨a, x1, x2, x3⟩, y, z⟩ := q k hk
    rw [c1 k (by omega), c2 k (by omega), c4 k (by omega), Nat.add_assoc o2 3 k, Nat.add_assoc o2 9 k, Nat.add_assoc o2 21 k, r (3 + k) (by omega), r (9 + k) (by omega), r (21 + k) (by omega)]
    rw [Nat.add_assoc] at x3 y z
    exact ⟨⟨a, x1, x2, x3⟩, y, z⟩
  · have rr : ∀ k, k < n → h2 45 (o2 + 9 + k) = h 45 (o + 9 + k) ∧ h2 45 (o2 + 15 + k) = h 45 (o + 15 + k) := fun k hk => by
      rw [Nat.add_assoc o2 9 k, Nat.add_assoc o2 15 k, Nat.add_assoc o 9 k, Nat.add_assoc o 15 k]; exact ⟨r (9 + k) (by omega), r (15 + k) (by omega)⟩
    obtain ⟨x1, x2⟩ := ho q hq
    rw [c3 q (by omega)]
    refine ⟨fun k hk hh => x1 k hk ?_, ?_⟩
    · rw [(rr k hk).1, (rr k hk).2] at hh; exact hh
    · rcases x2 with x2 | ⟨k, hk, y1, y2⟩
      · exact Or.inl x2
      · refine Or.inr ⟨k, hk, y1, ?_⟩
        rw [(rr k hk).1, (rr k hk).2]; exact y2
abbrev evX : List Nat := [26, 27, 28, 29, 30, 45, 44, 9, 10, 11, 12, 13, 14, 15, 16, 17, 18, 19, 20, 21, 22, 23, 24, 25, 48, 54, 55, 56, 57, 58, 59]
theorem Sim.ev {h h2 : Hp} {p n c : Nat} {kd sg pc wy wt : Nat → Nat} (hT : TdR h p n c kd sg pc wy wt) (hX : TxR h) (hK1 : KpR h 31 27 0 p n) (hK2 : KpR h 36 54 1 p n) (hN : SnR h n) (ex : ∀ k, k ∉ evX → h2 k = h k) (e44 : ∀ j, j ∉ scJ → h2 44 j = h 44 j) (e45 : ∀ j, 27 ≤ j → h2 45 j = h 45 j) (hE : EvR h2 26 0 p n) : Sim h2 :=
  have hn := hT.1.2.2.1
  (Sim.iff _).mpr ⟨p, n, c, kd, sg, pc, wy, wt, hT.cg ⟨ex 1 (by decide), ex 2 (by decide), ex 3 (by decide), ex 4 (by decide), ex 5 (by decide), ex 6 (by decide)⟩ ⟨ex 49 (by decide), ex 50 (by decide), ex 51 (by decide), ex 52 (by decide), ex 53 (by decide)⟩ ⟨e44 6 (by decide), e44 7 (by decide), e44 13 (by decide)⟩, hX.cg ⟨by rw [ex 7 (by decide)], e44 3 (by decide), ex 8 (by decide), ex 47 (by decide)⟩, hE, hK1.cg hn (ex 31 (by decide)) (by rw [ex 46 (by decide)]) ⟨ex 32 (by decide), ex 33 (by decide), ex 34 (by decide), ex 35 (by decide)⟩ (fun j _ => e45 _ (by omega)), hK2.cg hn (ex 36 (by decide)) (by rw [ex 46 (by decide)]) ⟨ex 37 (by decide), ex 38 (by decide), ex 39 (by decide), ex 40 (by decide)⟩ (fun j _ => e45 _ (by omega)), hN.cg ⟨by rw [ex 41 (by decide)], e44 30 (by decide), ex 42 (by decide), ex 43 (by decide), ex 60 (by decide)⟩⟩
section O4
variable {g : QG} {h : Hp} {K : Int32 → Hp → Prop} {KV : Hp → Prop}
theorem l_goOn {p n c N : Nat} {kd sg pc wy wt a : Nat → Nat} {h0 : Hp} (hN : N ≤ 99) (ha : ∀ k, k < n → a k < p) (hT0 : TdR h0 p n c kd sg pc wy wt) (kk : ∀ h2 : Hp, Only [27] h0 h2 → (∀ k, k < n → h2 27 k = nI (pst p (a k) (pc k * N) (wy k))) → KV h2) : ∀ (d i : Nat) (h : Hp), n - i = d → i ≤ n → Only [27] h0 h → (∀ k, k < i → h 27 k = nI (pst p (a k) (pc k * N) (wy k))) → (∀ k, i ≤ k → k < n → h 27 k = nI (a k)) → wX0_goOn_12 g KV h (nI N) (nI i) := by
  have hn := hT0.1.2.2.1
  have hp := hT0.1.2.1
  intro d
  induction d with
  | zero =>
    intro i h hd hi ho h1 h2
    have e : i = n := by omega
    subst e
    exact vX0_goOn_12 ⟨fun _ => kk h ho h1, fun hc => absurd (by rw [ho 1 (by decide), hT0.2.1.2.2]; exact nI_le (Nat.le_refl _) (by omega)) hc⟩
  | succ d ih =>
    intro i h hd hi ho h1 h2
    obtain ⟨t1, t2, t3, t4, t5⟩ := hT0.2.2.2 i (by omega)
    have hvt : pc i * N ≤ 3 * 99 := Nat.mul_le_mul t3.2.2 hN
    refine vX0_goOn_12 ⟨fun hc => ?_, fun _ => ⟨vp_in_nI (by omega) (by decide), vp_in_nI (by omega) (by decide), vp_in_nI (by omega) (by decide), ?_⟩⟩
    · rw [ho 1 (by decide), hT0.2.1.2.2, nI_leI (by omega) (by omega)] at hc; omega
    · rw [ix_nI (by omega), h2 i (Nat.le_refl _) (by omega), ho 4 (by decide), ho 5 (by decide), t3.1, t4.1, pk_mul]
      refine c_placeAfter hp (ha i (by omega)) (by omega) t4.2.2 (by rw [ho 1 (by decide)]; exact hT0.2.1.1) ⟨vp_in_nI (by omega) (by decide), ?_⟩
      rw [nI_1]
      refine ih (i + 1) _ (by omega) (by omega) (ho.trans (Only.up (by decide))) (fun k hk => ?_) (fun k hk1 hk2 => ?_)
      · by_cases e : k = i
        · subst e; exact up_at _ _ _ _
        · rw [up_row _ _ _ _ e]; exact h1 k (by omega)
      · rw [up_row _ _ _ _ (by omega)]; exact h2 k (by omega) hk2
theorem l_mwalk {p n c N T : Nat} {kd sg pc wy wt a : Nat → Nat} {h0 : Hp} (hN : N ≤ 99) (ha : ∀ k, k < n → a k < p) (hT0 : TdR h0 p n c kd sg pc wy wt) (e0 : h0 45 0 = nI T) (kk : ∀ h2 : Hp, OnlyM [45] [] h0 h2 → (∀ k, k < n → h2 45 (3 + k) = nI (pst p (a k) (pc k * N) (wy k))) → (∀ j, j ≠ 0 → (j < 3 ∨ 9 ≤ j) → h2 45 j = h0 45 j) → h2 45 0 = nI (T + N) → K (nI (T + N)) h2) : ∀ (d i : Nat) (h : Hp), n - i = d → i ≤ n → OnlyM [45] [] h0 h → (∀ k, k < i → h 45 (3 + k) = nI (pst p (a k) (pc k * N) (wy k))) → (∀ k, i ≤ k → k < n → h 45 (3 + k) = nI (a k)) → (∀ j, (j < 3 ∨ 9 ≤ j) → h 45 j = h0 45 j) → wX8_walk_47 g K h (nI N) (nI i) := by
  have hn := hT0.1.2.2.1
  have hp := hT0.1.2.1
  intro d
  induction d with
  | zero =>
    intro i h hd hi ho h1 h2 h3
    have e : i = n := by omega
    subst e
    refine vX8_walk_47 ⟨fun _ => ?_, fun hc => absurd (by rw [ho.2 13 (by decide), hT0.2.2.1.2.2]; exact nI_le (Nat.le_refl _) (by omega)) hc⟩
    rw [h3 0 (by omega), e0, nI_add]
    exact kk _ (ho.trans (OnlyM.upC (by decide) (by decide))) (fun k hk => by rw [up_row _ _ _ _ (by omega)]; exact h1 k hk) (fun j hj hj2 => by rw [up_row _ _ _ _ hj]; exact h3 j hj2) (up_at _ _ _ _)
  | succ d ih =>
    intro i h hd hi ho h1 h2 h3
    obtain ⟨t1, t2, t3, t4, t5⟩ := hT0.2.2.2 i (by omega)
    have i3 : (3 : Int32) + nI i = nI (3 + i) := nI_add 3 i
    refine vX8_walk_47 ⟨fun hc => ?_, fun _ => ⟨by rw [i3]; exact vp_in_nI (by omega) (by decide), vp_in_nI (by omega) (by decide), vp_in_nI (by omega) (by decide), ?_⟩⟩
    · rw [ho.2 13 (by decide), hT0.2.2.1.2.2, nI_leI (by omega) (by omega)] at hc; omega
    · rw [i3, ix_nI (by omega), ix_nI (by omega), h2 i (Nat.le_refl _) (by omega), ho.1 51 (by decide) (by decide), ho.1 52 (by decide) (by decide), t3.2.1, t4.2.1]
      refine c_walked hp (ha i (by omega)) t3.2.2 hN t4.2.2 (by rw [ho.2 6 (by decide)]; exact hT0.2.2.1.1) ⟨vp_in_nI (by omega) (by decide), ?_⟩
      rw [nI_1]
      refine ih (i + 1) _ (by omega) (by omega) (ho.trans (OnlyM.upC (by decide) (by decide))) (fun k hk => ?_) (fun k hk1 hk2 => ?_) (fun j hj => ?_)
      · by_cases e : k = i
        · subst e; exact up_at _ _ _ _
        · rw [up_row _ _ _ _ (by omega)]; exact h1 k (by omega)
      · rw [up_row _ _ _ _ (by omega)]; exact h2 k (by omega) hk2
      · rw [up_row _ _ _ _ (by omega)]; exact h3 j hj
theorem EvR.ats {h : Hp} {e o p n : Nat} (a : EvR h e o p n) : ∃ f : Nat → Nat, ∀ k, k < n → f k < p ∧ h (e + 1) k = nI (f k) ∧ h 45 (o + 3 + k) = nI (f k) := by
  refine ⟨fun k => if hk : k < n then Classical.choose (a.2.2.2.1 k hk).1 else 0, fun k hk => ?_⟩
  have := Classical.choose_spec (a.2.2.2.1 k hk).1
  dsimp only
  rw [dif_pos hk]
  exact this
theorem op_walk {a : Int32} (hS : Sim h) : FI g mX7_walk [.ref 0, .int a] h (fun r h1 => FI g mX8_walk [.ref 44, .int a] h1 (fun r2 h2 => r = r2 ∧ Sim h2)) := by
  obtain ⟨p, n, c, kd, sg, pc, wy, wt, hT, hX, hE, hK1, hK2, hN⟩ := (Sim.iff h).mp hS
  have hn := hT.1.2.2.1
  have hp0 : 0 < p := by have := hT.1.1; omega
  obtain ⟨f, hf⟩ := hE.ats
  have hE0 := hE
  obtain ⟨⟨t, t0, t1, t2⟩, ⟨b, b1, b2⟩, s1, hq, ho⟩ := hE
  have b2 : h 45 1 = bi (!b) := b2
  have e1 : (1 : Int32).toInt = 1 := by decide
  have e99 : (99 : Int32).toInt = 99 := by decide
  have inM : ∀ (hh : Hp) (K2 : Int32 → Hp → Prop), K2 (bi (decide (1 ≤ a.toInt ∧ a.toInt ≤ 99))) hh → FI g mX8_in [.long a.toInt64, .long (1 : Int64), .long (99 : Int64)] hh K2 := fun hh K2 hk => c_inI (by decide) (by decide) hk
  refine eX7_walk (vX7_walk_0 ⟨fun hc => ?_, fun hc => ⟨fun hd => ⟨fun he => ⟨fun hf1 => ?_, fun hf1 => ?_⟩, fun he => ?_⟩, fun hd => ?_⟩⟩)
  · rw [i_lt, e1] at hc
    exact eX8_walk (vX8_walk_0 (inM _ _ (br_b' (fun _ => ⟨rfl, hS⟩) (fun z => by have := of_decide_eq_true z; omega))))
  · rw [i_lt, e1] at hc
    rw [i_le, e99] at hd
    rw [b1, bin0] at he
    subst he
    obtain ⟨N, hN9, rfl⟩ : ∃ N, N ≤ 99 ∧ a = nI N := ⟨a.toInt.toNat, by omega, by rw [i_eq, nI_toInt (by omega)]; omega⟩
    rw [t1, nI_add, show (9999 : Int32) = nI 9999 from rfl, nI_leI (by omega) (by decide)] at hf1
    have hT1 : TdR (q_up h 26 0 (h 26 0 + nI N)) p n c kd sg pc wy wt := hT.cg ⟨rfl, rfl, rfl, rfl, rfl, rfl⟩ ⟨rfl, rfl, rfl, rfl, rfl⟩ ⟨rfl, rfl, rfl⟩
    refine eX0_goOn (vX0_goOn_0 (l_goOn (g := g) (a := f) hN9 (fun k hk => (hf k hk).1) hT1 (fun h2 o2 v2 => ?_) n 0 _ rfl (Nat.zero_le _) (Only.rf _) (fun k hk => by omega) (fun k _ hk => (hf k hk).2.1)))
    have o2' : ∀ k, k ∉ [26, 27] → h2 k = h k := fun k hk => by
      simp only [List.mem_cons, List.not_mem_nil, or_false, not_or] at hk
      rw [o2 k (by simp; exact hk.2), q_up_ne hk.1]
    have hT2 : TdR h2 p n c kd sg pc wy wt := hT.cg ⟨o2' 1 (by decide), o2' 2 (by decide), o2' 3 (by decide), o2' 4 (by decide), o2' 5 (by decide), o2' 6 (by decide)⟩ ⟨o2' 49 (by decide), o2' 50 (by decide), o2' 51 (by decide), o2' 52 (by decide), o2' 53 (by decide)⟩ (by rw [o2' 44 (by decide)]; exact ⟨rfl, rfl, rfl⟩)
    have h26 : h2 26 = upd (h 26) 0 (nI (t + N)) := by rw [o2 26 (by decide), q_up_at, t1, nI_add]
    refine eX8_walk (vX8_walk_0 (inM _ _ (br_b' (fun z => ?_) (fun _ => ?_))))
    · have := of_decide_eq_false z; omega
    · rw [o2' 45 (by decide), b2, show h 45 0 = _ from t2, nI_add]
      refine ⟨fun _ => ⟨fun _ => ?_, fun z => absurd (nI_le hf1 (by decide)) z⟩, fun z => absurd z (by decide)⟩
      refine l_mwalk (g := g) (a := f) (T := t) hN9 (fun k hk => (hf k hk).1) hT2 (by rw [o2' 45 (by decide)]; exact t2) (fun h3 o3 v3 w3 u3 => ⟨?_, ?_⟩) n 0 h2 rfl (Nat.zero_le _) (OnlyM.rf _) (fun k hk => by omega) (fun k _ hk => by rw [o2' 45 (by decide), ← (hf k hk).2.2, Nat.zero_add]) (fun j _ => rfl)
      · rw [h26]; simp [upd]
      · refine Sim.ev hT hX hK1 hK2 hN (fun k hk => ?_) (fun j hj => ?_) (fun j hj => ?_) ?_
        · have hk2 : k ∉ [26, 27] ∧ k ∉ [45] ∧ k ≠ 44 := by
            simp only [evX, List.mem_cons, List.not_mem_nil, or_false, not_or] at hk ⊢
            omega
          rw [o3.1 k hk2.2.1 hk2.2.2, o2' k hk2.1]
        · rw [o3.2 j (by simp), o2' 44 (by decide)]
        · rw [w3 j (by omega) (by omega), o2' 45 (by decide)]
        · have r45 : ∀ j, j ≠ 0 → (j < 3 ∨ 9 ≤ j) → h3 45 j = h 45 j := fun j h1 h2' => by rw [w3 j h1 h2', o2' 45 (by decide)]
          refine ⟨⟨t + N, hf1, ?_, u3⟩, ⟨true, ?_, ?_⟩, ?_, fun k hk => ⟨⟨pst p (f k) (pc k * N) (wy k), pst_lt hp0, ?_, ?_⟩, ?_, ?_⟩, fun q hq2 => ?_⟩
          · rw [o3.1 26 (by decide) (by decide), h26]; simp [upd]
          · rw [o3.1 26 (by decide) (by decide), h26]; exact b1
          · rw [r45 1 (by decide) (by decide)]; exact b2
          · rw [o3.1 26 (by decide) (by decide), h26, r45 2 (by decide) (by decide)]; exact s1
          · rw [o3.1 27 (by decide) (by decide)]; exact v2 k hk
          · rw [Nat.zero_add]; exact v3 k hk
          · rw [o3.1 28 (by decide) (by decide), o2' 28 (by decide), r45 _ (by omega) (by omega)]; exact (hq k hk).2.1
          · rw [o3.1 30 (by decide) (by decide), o2' 30 (by decide), r45 _ (by omega) (by omega)]; exact (hq k hk).2.2
          · have := ho q hq2
            rw [o3.1 29 (by decide) (by decide), o2' 29 (by decide)]
            refine ⟨fun k hk hh => this.1 k hk ?_, ?_⟩
            · rw [r45 _ (by omega) (by omega), r45 _ (by omega) (by omega)] at hh; exact hh
            · rcases this.2 with z | ⟨k, hk, z1, z2⟩
              · exact Or.inl z
              · refine Or.inr ⟨k, hk, z1, ?_⟩
                rw [r45 _ (by omega) (by omega), r45 _ (by omega) (by omega)]; exact z2
  · rw [i_lt, e1] at hc
    rw [i_le, e99] at hd
    rw [b1, bin0] at he
    subst he
    refine eX8_walk (vX8_walk_0 (inM _ _ (br_b' (fun z => ?_) (fun _ => ⟨fun _ => ⟨fun z => ?_, fun _ => ⟨rfl, hS⟩⟩, fun z => ?_⟩))))
    · have := of_decide_eq_false z; omega
    · rw [show h 45 0 = _ from t2] at z
      rw [t1] at hf1
      exact absurd z hf1
    · rw [b2] at z; exact absurd z (by decide)
  · rw [i_lt, e1] at hc
    rw [i_le, e99] at hd
    rw [b1, bi0] at he
    subst he
    refine eX8_walk (vX8_walk_0 (inM _ _ (br_b' (fun z => ?_) (fun _ => ⟨fun z => absurd (by rw [b2]; rfl) z, fun _ => ⟨rfl, hS⟩⟩))))
    have := of_decide_eq_false z; omega
  · rw [i_le, e99] at hd
    exact eX8_walk (vX8_walk_0 (inM _ _ (br_b' (fun _ => ⟨rfl, hS⟩) (fun z => by have := of_decide_eq_true z; omega))))
end O4
