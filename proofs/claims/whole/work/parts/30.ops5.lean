/-! play, keep, back -/
section O5
variable {g : QG} {h : Hp} {K : Int32 → Hp → Prop} {KV : Hp → Prop}
theorem c_getUp (kk : ∀ h2 : Hp, Only [26, 28, 29] h h2 → h2 26 = upd (upd (h 26) 1 1) 3 0 → (∀ j, j < 6 → h2 28 j = -1) → (∀ j, j < 12 → h2 29 j = -1) → KV h2) : FV g mX0_getUp [.ref 26] h KV := by
  refine eX0_getUp (vX0_getUp_0 (c_fill28 (fun h2 o2 v2 => c_fill29 (fun h3 o3 v3 => ?_))))
  refine kk h3 (((Only.up (by decide)).trans (Only.up (by decide))).trans ((o2.weaken (by decide)).trans (o3.weaken (by decide)))) ?_ (fun j hj => ?_) v3
  · rw [o3 26 (by decide), o2 26 (by decide), q_up_at, q_up_at]
  · rw [o3 28 (by decide)]; exact v2 j hj
theorem l_mplay {h0 : Hp} (kk : ∀ h2 : Hp, OnlyM [45] [] h0 h2 → (∀ j, 9 ≤ j → j < 21 → h2 45 j = -1) → (∀ j, (j = 0 ∨ (3 ≤ j ∧ j < 9) ∨ 21 ≤ j) → h2 45 j = h0 45 j) → h2 45 1 = 0 → h2 45 2 = 0 → K (h0 45 0) h2) : ∀ (d i : Nat) (h : Hp), 6 - i = d → i ≤ 6 → OnlyM [45] [] h0 h → (∀ k, k < i → h 45 (9 + k) = -1 ∧ h 45 (15 + k) = -1) → (∀ j, (j < 9 ∨ 21 ≤ j) → h 45 j = h0 45 j) → wX8_play_14 g K h (nI i) := by
  intro d
  induction d with
  | zero =>
    intro i h hd hi ho h1 h2
    have e : i = 6 := by omega
    subst e
    refine vX8_play_14 ⟨fun _ => ?_, fun hc => absurd (nI_le (a := 6) (Nat.le_refl _) (by decide)) hc⟩
    rw [h2 0 (by decide)]
    refine kk _ ((ho.trans (OnlyM.upC (by decide) (by decide))).trans (OnlyM.upC (by decide) (by decide))) (fun j hj1 hj2 => ?_) (fun j hj => ?_) ?_ (up_at _ _ _ _)
    · rw [up_row _ _ _ _ (by omega), up_row _ _ _ _ (by omega)]
      by_cases hj : j < 15
      · have := (h1 (j - 9) (by omega)).1
        rw [show 9 + (j - 9) = j by omega] at this; exact this
      · have := (h1 (j - 15) (by omega)).2
        rw [show 15 + (j - 15) = j by omega] at this; exact this
    · rw [up_row _ _ _ _ (by omega), up_row _ _ _ _ (by omega)]; exact h2 j (by omega)
    · rw [up_row _ _ _ _ (by decide)]; exact up_at _ _ _ _
  | succ d ih =>
    intro i h hd hi ho h1 h2
    have i9 : (9 : Int32) + nI i = nI (9 + i) := nI_add 9 i
    have i15 : (15 : Int32) + nI i = nI (15 + i) := nI_add 15 i
    refine vX8_play_14 ⟨fun hc => ?_, fun _ => ⟨by rw [i9]; exact vp_in_nI (by omega) (by decide), by rw [i15]; exact vp_in_nI (by omega) (by decide), ?_⟩⟩
    · rw [show (6 : Int32) = nI 6 from rfl, nI_leI (by decide) (by omega)] at hc; omega
    · rw [i9, i15, ix_nI (by omega), ix_nI (by omega), nI_1]
      refine ih (i + 1) _ (by omega) (by omega) ((ho.trans (OnlyM.upC (by decide) (by decide))).trans (OnlyM.upC (by decide) (by decide))) (fun k hk => ?_) (fun j hj => ?_)
      · by_cases e : k = i
        · subst e
          exact ⟨by rw [up_row _ _ _ _ (by omega)]; exact up_at _ _ _ _, up_at _ _ _ _⟩
        · rw [up_row _ _ _ _ (by omega), up_row _ _ _ _ (by omega), up_row _ _ _ _ (by omega), up_row _ _ _ _ (by omega)]
          exact h1 k (by omega)
      · rw [up_row _ _ _ _ (by omega), up_row _ _ _ _ (by omega)]; exact h2 j hj
theorem op_play (hS : Sim h) : FI g mX7_play [.ref 0] h (fun r h1 => FI g mX8_play [.ref 44] h1 (fun r2 h2 => r = r2 ∧ Sim h2)) := by
  obtain ⟨p, n, c, kd, sg, pc, wy, wt, hT, hX, hE, hK1, hK2, hN⟩ := (Sim.iff h).mp hS
  have hn := hT.1.2.2.1
  have hp := hT.1.2.1
  obtain ⟨⟨t, t0, t1, t2⟩, ⟨b, b1, b2⟩, s1, hq, ho⟩ := hE
  have b2 : h 45 1 = bi (!b) := b2
  refine eX7_play (vX7_play_0 ⟨fun he => ?_, fun he => ?_⟩)
  · rw [b1, bi0] at he
    subst he
    refine c_getUp (fun h2 o2 e26 v28 v29 => ?_)
    refine eX8_play (vX8_play_0 ⟨fun _ => ?_, fun z => ?_⟩)
    · refine l_mplay (g := g) (h0 := h2) (fun h3 o3 v3 w3 x1 x2 => ⟨?_, ?_⟩) 6 0 h2 rfl (by decide) (OnlyM.rf _) (fun k hk => by omega) (fun j _ => rfl)
      · rw [e26, o2 45 (by decide)]
        show h 26 0 = h 45 0
        rw [t1, show h 45 0 = _ from t2]
      · refine Sim.ev hT hX hK1 hK2 hN (fun k hk => ?_) (fun j hj => ?_) (fun j hj => ?_) ?_
        · have hk2 : k ∉ [26, 28, 29] ∧ k ∉ [45] ∧ k ≠ 44 := by
            simp only [evX, List.mem_cons, List.not_mem_nil, or_false, not_or] at hk ⊢
            omega
          rw [o3.1 k hk2.2.1 hk2.2.2, o2 k hk2.1]
        · rw [o3.2 j (by simp), o2 44 (by decide)]
        · rw [w3 j (by omega), o2 45 (by decide)]
        · refine ⟨⟨t, t0, ?_, ?_⟩, ⟨true, ?_, x1⟩, ?_, fun k hk => ⟨?_, ?_, ?_⟩, fun q hq2 => ?_⟩
          · rw [o3.1 26 (by decide) (by decide), e26]; exact t1
          · rw [w3 0 (by decide), o2 45 (by decide)]; exact t2
          · rw [o3.1 26 (by decide) (by decide), e26]; rfl
          · rw [o3.1 26 (by decide) (by decide), e26, x2]; rfl
          · rw [o3.1 27 (by decide) (by decide), o2 27 (by decide), w3 _ (by omega), o2 45 (by decide)]; exact (hq k hk).1
          · rw [o3.1 28 (by decide) (by decide), v28 k (by omega), v3 _ (by omega) (by omega)]
          · rw [o3.1 30 (by decide) (by decide), o2 30 (by decide), w3 _ (by omega), o2 45 (by decide)]; exact (hq k hk).2.2
          · rw [o3.1 29 (by decide) (by decide), v29 q (by omega)]
            refine ⟨fun k hk hh => ?_, Or.inl rfl⟩
            rw [v3 _ (by omega) (by omega), v3 _ (by omega) (by omega)] at hh
            rcases hh with hh | hh <;> exact absurd hh.symm (a_m1 q (by omega))
    · rw [o2 45 (by decide), b2] at z; exact absurd z (by decide)
  · rw [b1, bin0] at he
    subst he
    exact eX8_play (vX8_play_0 ⟨fun z => absurd (by rw [b2]; rfl) z, fun _ => ⟨rfl, hS⟩⟩)
theorem l_copy {a b : Nat} {h0 : Hp} (ha : a ≤ 2) (hb : b ≤ 2) (hab : a ≠ b) (kk : ∀ h2 : Hp, OnlyM [45] [] h0 h2 → (∀ j, j < 27 → h2 45 (27 * b + j) = h0 45 (27 * a + j)) → (∀ j, (j < 27 * b ∨ 27 * b + 27 ≤ j) → h2 45 j = h0 45 j) → KV h2) : ∀ (d i : Nat) (h : Hp), 27 - i = d → i ≤ 27 → OnlyM [45] [] h0 h → (∀ j, j < i → h 45 (27 * b + j) = h0 45 (27 * a + j)) → (∀ j, (j < 27 * b ∨ 27 * b + i ≤ j) → h 45 j = h0 45 j) → wX8_copy_2 g KV h (nI a) (nI b) (nI i) := by
  intro d
  induction d with
  | zero =>
    intro i h hd hi ho h1 h2
    have e : i = 27 := by omega
    subst e
    exact vX8_copy_2 ⟨fun _ => kk h ho h1 h2, fun hc => absurd (nI_le (a := 27) (Nat.le_refl _) (by decide)) hc⟩
  | succ d ih =>
    intro i h hd hi ho h1 h2
    have ea : (27 : Int32) * nI a + nI i = nI (27 * a + i) := by rw [show (27 : Int32) = nI 27 from rfl, pk_mul, nI_add]
    have eb : (27 : Int32) * nI b + nI i = nI (27 * b + i) := by rw [show (27 : Int32) = nI 27 from rfl, pk_mul, nI_add]
    refine vX8_copy_2 ⟨fun hc => ?_, fun _ => ⟨by rw [ea]; exact vp_in_nI (by omega) (by decide), by rw [eb]; exact vp_in_nI (by omega) (by decide), ?_⟩⟩
    · rw [show (27 : Int32) = nI 27 from rfl, nI_leI (by decide) (by omega)] at hc; omega
    · rw [ea, eb, ix_nI (by omega), ix_nI (by omega), nI_1]
      refine ih (i + 1) _ (by omega) (by omega) (ho.trans (OnlyM.upC (by decide) (by decide))) (fun j hj => ?_) (fun j hj => ?_)
      · by_cases e : j = i
        · subst e
          rw [up_at]
          exact h2 _ (by rcases Nat.lt_or_ge a b with z | z <;> omega)
        · rw [up_row _ _ _ _ (by omega)]; exact h1 j (by omega)
      · rw [up_row _ _ _ _ (by omega)]; exact h2 j (by omega)
theorem c_copy {a b : Nat} (ha : a ≤ 2) (hb : b ≤ 2) (hab : a ≠ b) (kk : ∀ h2 : Hp, OnlyM [45] [] h h2 → (∀ j, j < 27 → h2 45 (27 * b + j) = h 45 (27 * a + j)) → (∀ j, (j < 27 * b ∨ 27 * b + 27 ≤ j) → h2 45 j = h 45 j) → KV h2) : FV g mX8_copy [.ref 44, .int (nI a), .int (nI b)] h KV :=
  eX8_copy (vX8_copy_0 (l_copy (g := g) ha hb hab kk 27 0 h rfl (by decide) (OnlyM.rf _) (fun j hj => by omega) (fun j _ => rfl)))
end O5
