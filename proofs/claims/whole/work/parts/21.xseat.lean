/-! the class's stop: leastAt, take, seatOne -/
theorem dst_iff {p a d q : Nat} (ha : a < p) (hq : q < p) (hd : d ≤ p / 2) : dst p a q = d ↔ (q = if p ≤ a + d then a + d - p else a + d) ∨ q = if a < d then a + p - d else a - d := by
  unfold dst
  rw [dst_on ha hq]
  by_cases h1 : a ≤ q <;> by_cases h2 : p ≤ a + d <;> by_cases h3 : a < d <;> simp only [h1, h2, h3, if_true, if_false] <;> split <;> omega
section Xs
variable {g : QG} {h : Hp} {K : Int32 → Hp → Prop} {KV : Hp → Prop}
theorem k_la76 {S U D : Nat} (hS : S < 4096) (hU : U < 12) (hD : D < 12) (k1 : S.testBit (min U D) = true → K (nI (min U D)) h) (k2 : S.testBit (min U D) = false → S.testBit (max U D) = true → K (nI (max U D)) h) (k3 : S.testBit (min U D) = false → S.testBit (max U D) = false → K (-1) h) : wX6_leastAt_76 g K h (nI S) (nI U) (nI D) (nI (min U D)) := by
  have e : nI U + nI D - nI (min U D) = nI (max U D) := by rw [nI_add, pk_sub (by omega), show U + D - min U D = max U D by omega]
  refine vX6_leastAt_76 (c_holds (by omega) (by omega) (br_b (fun e1 => ?_) (fun e1 => k1 e1)))
  rw [e]
  exact c_holds (by omega) (by omega) (br_b (fun e2 => k3 e1 e2) (fun e2 => k2 e1 e2))
theorem c_leastAt {p a w S : Nat} (hp : p ≤ 12) (ha : a < p) (hw : w ≤ 20) (hS : S < 4096) (e : h 1 0 = nI p) (kn : (∀ q, q < p → dst p a q + 1 = w → S.testBit q = false) → K (-1) h) (ky : ∀ q, q < p → dst p a q + 1 = w → S.testBit q = true → (∀ q2, q2 < p → dst p a q2 + 1 = w → S.testBit q2 = true → q ≤ q2) → K (nI q) h) : FI g mX6_leastAt [.ref 1, .int (nI a), .int (eI w), .int (nI S)] h K := by
  refine eX6_leastAt (vX6_leastAt_0 ⟨fun hc => ?_, fun hc => ?_⟩)
  · rw [i_lt, eI_toInt (by omega), show (0 : Int32).toInt = 0 from rfl] at hc
    exact kn (fun q _ hq => by omega)
  · rw [i_lt, eI_toInt (by omega), show (0 : Int32).toInt = 0 from rfl] at hc
    obtain ⟨d, rfl⟩ : ∃ d, w = d + 1 := ⟨w - 1, by omega⟩
    have ew : eI (d + 1) = nI d := nI_pred d
    rw [ew]
    refine c_farthest (by omega) e ⟨fun hd => ?_, fun hd => ?_⟩
    · rw [nI_leI (by omega) (by omega)] at hd
      rw [e, nI_add]
      have hU : (if p ≤ a + d then a + d - p else a + d) < 12 := by split <;> omega
      have hD : (if a < d then a + p - d else a - d) < 12 := by split <;> omega
      have go38 : wX6_leastAt_38 g K h (nI a) (nI d) (nI S) (nI (if p ≤ a + d then a + d - p else a + d)) := by
        have fin : wX6_leastAt_76 g K h (nI S) (nI (if p ≤ a + d then a + d - p else a + d)) (nI (if a < d then a + p - d else a - d)) (nI (min (if p ≤ a + d then a + d - p else a + d) (if a < d then a + p - d else a - d))) := by
          refine k_la76 hS hU hD (fun h1 => ky _ ?_ ?_ h1 (fun q2 hq2 hd2 _ => ?_)) (fun h1 h2 => ky _ ?_ ?_ h2 (fun q2 hq2 hd2 hb2 => ?_)) (fun h1 h2 => kn (fun q hq hd2 => ?_))
          · split <;> split <;> omega
          · rw [Nat.add_right_cancel_iff, dst_iff ha (by split <;> split <;> omega) hd]; omega
          · rw [Nat.add_right_cancel_iff, dst_iff ha hq2 hd] at hd2; omega
          · split <;> split <;> omega
          · rw [Nat.add_right_cancel_iff, dst_iff ha (by split <;> split <;> omega) hd]; omega
          · rw [Nat.add_right_cancel_iff, dst_iff ha hq2 hd] at hd2
            rcases Nat.lt_or_ge q2 (max (if p ≤ a + d then a + d - p else a + d) (if a < d then a + p - d else a - d)) with h5 | h5
            · rw [show q2 = min (if p ≤ a + d then a + d - p else a + d) (if a < d then a + p - d else a - d) by omega, h1] at hb2
              cases hb2
            · exact h5
          · rw [Nat.add_right_cancel_iff, dst_iff ha hq hd] at hd2
            rcases (by omega : q = min (if p ≤ a + d then a + d - p else a + d) (if a < d then a + p - d else a - d) ∨ q = max (if p ≤ a + d then a + d - p else a + d) (if a < d then a + p - d else a - d)) with h5 | h5
            · rw [h5]; exact h1
            · rw [h5]; exact h2
        refine vX6_leastAt_38 ⟨fun hx => ?_, fun hx => ?_⟩
        · rw [i_lt, pk_sub_toInt (by omega) (by omega), show (0 : Int32).toInt = 0 from rfl] at hx
          have hl : a < d := by omega
          rw [if_pos hl] at fin hD
          rw [e, i_sub_add, nI_add, pk_sub (by omega), nI_leI (by omega) (by omega)]
          refine ⟨fun hy => ?_, fun hy => ?_⟩
          · rw [Nat.min_eq_right hy] at fin; exact fin
          · rw [Nat.min_eq_left (by omega)] at fin; exact fin
        · rw [i_lt, pk_sub_toInt (by omega) (by omega), show (0 : Int32).toInt = 0 from rfl] at hx
          have hl : ¬ a < d := by omega
          rw [if_neg hl] at fin hD
          rw [pk_sub (by omega), nI_leI (by omega) (by omega)]
          refine ⟨fun hy => ?_, fun hy => ?_⟩
          · rw [Nat.min_eq_right hy] at fin; exact fin
          · rw [Nat.min_eq_left (by omega)] at fin; exact fin
      rw [nI_leI (by omega) (by omega)]
      refine ⟨fun hx => ?_, fun hx => ?_⟩
      · rw [if_pos hx] at go38
        rw [pk_sub (by omega)]; exact go38
      · rw [if_neg hx] at go38; exact go38
    · rw [nI_leI (by omega) (by omega)] at hd
      exact kn (fun q hq h9 => by have := dst_le ha hq; omega)
/-- what the class holds at a stop -/
def XT (h : Hp) (p n : Nat) (kd at_ : Nat → Nat) : Prop := p ≤ 12 ∧ n ≤ 6 ∧ 0 < p ∧ h 1 0 = nI p ∧ h 1 2 = nI n ∧ ∀ k, k < n → h 2 k = nI (kd k) ∧ kd k ≤ 3 ∧ h 17 k = nI (at_ k) ∧ at_ k < p
theorem XT.keep {h h2 : Hp} {p n : Nat} {kd at_ : Nat → Nat} {L : List Nat} (a : XT h p n kd at_) (o : Only L h h2) (hL : 1 ∉ L ∧ 2 ∉ L ∧ 17 ∉ L) : XT h2 p n kd at_ := by
  obtain ⟨a1, a2, a3, a4, a5, a6⟩ := a
  refine ⟨a1, a2, a3, by rw [o 1 hL.1]; exact a4, by rw [o 1 hL.1]; exact a5, fun k hk => ?_⟩
  rw [o 2 hL.2.1, o 17 hL.2.2]
  exact a6 k hk
/-- who holds which chair -/
def HO (n : Nat) (s : Sg) (ho : Nat → Int32) : Prop := ∀ q, q < 12 → (∀ k, k < n → (s.2.1 k = nI q ∨ s.2.2 k = nI q) → ho q = nI k) ∧ (ho q = -1 ∨ ∃ k, k < n ∧ ho q = nI k ∧ (s.2.1 k = nI q ∨ s.2.2 k = nI q)) ∧ (s.1.testBit q = true → ∀ k, k < n → s.2.1 k ≠ nI q ∧ s.2.2 k ≠ nI q)
theorem HO.take {n : Nat} {s : Sg} {ho : Nat → Int32} (H : HO n s ho) {k q : Nat} (hk : k < n) (hq : q < 12) (hf : s.1.testBit q = true) (h1 : s.2.1 k = -1) (h2 : s.2.2 k = -1) : HO n (sdf s.1 (2 ^ q), upd s.2.1 k (nI q), s.2.2) (upd ho q (nI k)) := by
  intro q2 hq2
  obtain ⟨c1, c2, c3⟩ := H q2 hq2
  have hn := (H q hq).2.2 hf
  refine ⟨fun k2 hk2 hh => ?_, ?_, fun hb k2 hk2 => ?_⟩
  · replace hh : upd s.2.1 k (nI q) k2 = nI q2 ∨ s.2.2 k2 = nI q2 := hh
    by_cases e : k2 = k
    · subst e
      rcases hh with hh | hh
      · simp only [upd, if_true] at hh
        rw [nI_eq (by omega) (by omega)] at hh
        subst hh
        simp [upd]
      · rw [h2] at hh
        exact absurd hh.symm (a_m1 q2 (by omega))
    · simp only [upd, e, if_false] at hh
      have hne : q2 ≠ q := fun e2 => by
        subst e2
        rcases hh with hh | hh
        · exact (hn k2 hk2).1 hh
        · exact (hn k2 hk2).2 hh
      simp only [upd, hne, if_false]
      exact c1 k2 hk2 hh
  · by_cases e : q2 = q
    · subst e
      exact Or.inr ⟨k, hk, by simp [upd], Or.inl (by simp [upd])⟩
    · simp only [upd, e, if_false]
      rcases c2 with c2 | ⟨k2, x1, x2, x3⟩
      · exact Or.inl c2
      · refine Or.inr ⟨k2, x1, x2, ?_⟩
        by_cases e2 : k2 = k
        · subst e2
          rcases x3 with x3 | x3
          · rw [h1] at x3; exact absurd x3.symm (a_m1 q2 (by omega))
          · rw [h2] at x3; exact absurd x3.symm (a_m1 q2 (by omega))
        · simp only [e2, if_false]; exact x3
  · have hb : (sdf s.1 (2 ^ q)).testBit q2 = true := hb
    rw [sdf_tb, Bool.and_eq_true] at hb
    have hne : q2 ≠ q := fun e => by
      subst e
      rw [Nat.testBit_two_pow_self] at hb
      cases hb.2
    show upd s.2.1 k (nI q) k2 ≠ nI q2 ∧ s.2.2 k2 ≠ nI q2
    refine ⟨?_, (c3 hb.1 k2 hk2).2⟩
    unfold upd
    split
    · rw [ne_eq, nI_eq (by omega) (by omega)]; exact fun e => hne e.symm
    · exact (c3 hb.1 k2 hk2).1
theorem HO.take2 {n : Nat} {s : Sg} {ho : Nat → Int32} (H : HO n s ho) {k q : Nat} (hk : k < n) (hq : q < 12) (hf : s.1.testBit q = true) (h2 : s.2.2 k = -1) : HO n (sdf s.1 (2 ^ q), s.2.1, upd s.2.2 k (nI q)) (upd ho q (nI k)) := by
  intro q2 hq2
  obtain ⟨c1, c2, c3⟩ := H q2 hq2
  have hn := (H q hq).2.2 hf
  refine ⟨fun k2 hk2 hh => ?_, ?_, fun hb k2 hk2 => ?_⟩
  · replace hh : s.2.1 k2 = nI q2 ∨ upd s.2.2 k (nI q) k2 = nI q2 := hh
    by_cases e : k2 = k
    · subst e
      rcases hh with hh | hh
      · have hne : q2 ≠ q := fun e2 => by subst e2; exact (hn k2 hk2).1 hh
        simp only [upd, hne, if_false]
        exact c1 k2 hk2 (Or.inl hh)
      · simp only [upd, if_true] at hh
        rw [nI_eq (by omega) (by omega)] at hh
        subst hh
        simp [upd]
    · simp only [upd, e, if_false] at hh
      have hne : q2 ≠ q := fun e2 => by
        subst e2
        rcases hh with hh | hh
        · exact (hn k2 hk2).1 hh
        · exact (hn k2 hk2).2 hh
      simp only [upd, hne, if_false]
      exact c1 k2 hk2 hh
  · by_cases e : q2 = q
    · subst e
      exact Or.inr ⟨k, hk, by simp [upd], Or.inr (by simp [upd])⟩
    · simp only [upd, e, if_false]
      rcases c2 with c2 | ⟨k2, x1, x2, x3⟩
      · exact Or.inl c2
      · refine Or.inr ⟨k2, x1, x2, ?_⟩
        by_cases e2 : k2 = k
        · subst e2
          rcases x3 with x3 | x3
          · exact Or.inl x3
          · rw [h2] at x3; exact absurd x3.symm (a_m1 q2 (by omega))
        · simp only [e2, if_false]; exact x3
  · have hb : (sdf s.1 (2 ^ q)).testBit q2 = true := hb
    rw [sdf_tb, Bool.and_eq_true] at hb
    have hne : q2 ≠ q := fun e => by
      subst e
      rw [Nat.testBit_two_pow_self] at hb
      cases hb.2
    show s.2.1 k2 ≠ nI q2 ∧ upd s.2.2 k (nI q) k2 ≠ nI q2
    refine ⟨(c3 hb.1 k2 hk2).1, ?_⟩
    unfold upd
    split
    · rw [ne_eq, nI_eq (by omega) (by omega)]; exact fun e => hne e.symm
    · exact (c3 hb.1 k2 hk2).2
def XS (h : Hp) (n : Nat) (s : Sg) : Prop := h 16 5 = nI s.1 ∧ s.1 < 4096 ∧ (∀ k, k < 6 → h 18 k = s.2.1 k) ∧ (∃ b : Bool, h 16 4 = bi b ∧ (b = true ↔ ∃ k, k < n ∧ s.2.2 k ≠ -1)) ∧ HO n s (h 19) ∧ ∀ k, k < n → s.2.1 k = -1 → s.2.2 k = -1
theorem c_take {S k q : Nat} (hq : q < 12) (hS : S < 4096) (e : h 16 5 = nI S) (kk : KV (q_up (q_up h 19 q (nI k)) 16 5 (nI (sdf S (2 ^ q))))) : FV g mX3_take [.ref 16, .int (nI k), .int (nI q)] h KV := by
  have h2q : 2 ^ q < 4096 := p_lt (n := 12) hq
  refine eX3_take (vX3_take_0 ⟨vp_in_nI hq (by decide), ?_⟩)
  rw [ix_nI (by omega), e, a_shl1 (by omega), a_sdf (by omega) (by omega)]
  exact kk
end Xs
