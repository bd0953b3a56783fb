/-! the class's seatOne and seatAll -/
theorem upd_same {f : Nat → Int32} {k : Nat} {v : Int32} (h : f k = v) : upd f k v = f := by
  funext i
  unfold upd
  split
  · rename_i e; rw [e]; exact h.symm
  · rfl
section Xa
variable {g : QG} {h : Hp} {K : Int32 → Hp → Prop} {KV : Hp → Prop}
theorem l_one29 {p n k q : Nat} {kd at_ : Nat → Nat} {s : Sg} (hT : XT h p n kd at_) (hS : XS h n s) (hk : k < n) (hq : q < p) (hG : s.2.2 k = -1) (hF : ¬ s.2.1 k = -1)
    (kn : (∀ r, r < p → s.1.testBit r = false) → KV h) (ky : ∀ (h2 : Hp) (r : Nat), Only [16, 18, 19] h h2 → Near p s.1 q r → XS h2 n (sdf s.1 (2 ^ r), s.2.1, upd s.2.2 k (nI r)) → KV h2) : ∀ (d aw : Nat), p / 2 + 1 - aw = d → aw ≤ p / 2 + 1 → (∀ r, r < p → s.1.testBit r = true → aw ≤ dst p q r) → wX3_seatOne_29 g KV h (nI k) (nI q) (nI aw) := by
  obtain ⟨hp, hn, hp0, e0, e2, hh⟩ := hT
  intro d
  induction d with
  | zero =>
    intro aw hd ha hr
    have e : aw = p / 2 + 1 := by omega
    refine vX3_seatOne_29 (c_farthest (by omega) e0 ⟨fun _ => kn (fun r hr2 => ?_), fun hc => absurd (nI_lt (by omega) (by omega)) hc⟩)
    cases hb : s.1.testBit r with
    | false => rfl
    | true => have := hr r hr2 hb; have := dst_le hq hr2; omega
  | succ d ih =>
    intro aw hd ha hr
    refine vX3_seatOne_29 (c_farthest (by omega) e0 ⟨fun hc => ?_, fun _ => ?_⟩)
    · rw [nI_ltI (by omega) (by omega)] at hc; omega
    · rw [hS.1, show nI aw = eI (aw + 1) from (nI_pred aw).symm]
      refine c_leastAt hp hq (by omega) hS.2.1 e0 (fun hno => ⟨fun _ => ?_, fun hc => absurd rfl hc⟩) (fun r hr1 hr2 hr3 hr4 => ⟨fun hc => absurd hc (a_m1 r (by omega)), fun _ => ?_⟩)
      · rw [show eI (aw + 1) = nI aw from nI_pred aw, nI_1]
        refine ih (aw + 1) (by omega) (by omega) (fun r hr1 hb => ?_)
        have := hr r hr1 hb
        rcases Nat.lt_or_ge aw (dst p q r) with h5 | h5
        · exact h5
        · rw [hno r hr1 (by omega)] at hb; cases hb
      · refine c_take (by omega) hS.2.1 hS.1 ?_
        refine ky _ r ((Only.up (by decide)).trans ((Only.up (by decide)).trans (Only.up (by decide)))) ⟨hr1, hr3, fun r2 hx hb => ?_⟩ ?_
        · have := hr r2 hx hb
          rcases Nat.lt_or_ge (dst p q r) (dst p q r2) with h5 | h5
          · exact Or.inl h5
          · exact Or.inr ⟨by omega, hr4 r2 hx (by omega) hb⟩
        · refine ⟨by rw [up_row _ _ _ _ (by decide)]; exact up_at _ _ _ _, sdf_le (n := 12) hS.2.1, fun j hj => ?_, ⟨true, up_at _ _ _ _, ?_⟩, ?_, fun j hj hm => ?_⟩
          · rw [up_cell _ _ _ _ (by decide), up_cell _ _ _ _ (by decide), up_cell _ _ _ _ (by decide)]; exact hS.2.2.1 j hj
          · refine ⟨fun _ => ⟨k, hk, ?_⟩, fun _ => rfl⟩
            simp only [upd, if_true]
            exact a_m1 r (by omega)
          · rw [up_cell _ _ _ _ (by decide), up_cell _ _ _ _ (by decide), q_up_at]
            exact hS.2.2.2.2.1.take2 hk (by omega) hr3 hG
          · have hm : s.2.1 j = -1 := hm
            have hne : j ≠ k := fun e => hF (e ▸ hm)
            show upd s.2.2 k (nI r) j = -1
            simp only [upd, hne, if_false]
            exact hS.2.2.2.2.2 j hj hm
theorem c_seatOne {p n k q : Nat} {kd at_ : Nat → Nat} {s : Sg} (hT : XT h p n kd at_) (hS : XS h n s) (hk : k < n) (hq : q < p) (hf : s.1.testBit q = true) (h1 : s.2.1 k = -1) (kk : ∀ (h2 : Hp) (t : Sg), Only [16, 18, 19] h h2 → XS h2 n t → Tak p kd k q s t → KV h2) : FV g mX3_seatOne [.ref 16, .int (nI k), .int (nI q)] h KV := by
  have hT0 := hT
  obtain ⟨hp, hn, hp0, e0, e2, hh⟩ := hT
  have hG := hS.2.2.2.2.2 k hk h1
  refine eX3_seatOne (vX3_seatOne_0 ⟨vp_in_nI (by omega) (by decide), ?_⟩)
  rw [ix_nI (by omega)]
  refine c_take (S := s.1) (by omega) hS.2.1 (by rw [up_cell _ _ _ _ (by decide)]; exact hS.1) ⟨vp_in_nI (by omega) (by decide), ?_⟩
  have o1 : Only [16, 18, 19] h (q_up (q_up (q_up h 18 k (nI q)) 19 q (nI k)) 16 5 (nI (sdf s.1 (2 ^ q)))) := (Only.up (by decide)).trans ((Only.up (by decide)).trans (Only.up (by decide)))
  have x1 : XS (q_up (q_up (q_up h 18 k (nI q)) 19 q (nI k)) 16 5 (nI (sdf s.1 (2 ^ q)))) n (sdf s.1 (2 ^ q), upd s.2.1 k (nI q), s.2.2) := by
    refine ⟨up_at _ _ _ _, sdf_le (n := 12) hS.2.1, fun j hj => ?_, ?_, ?_, fun j hj hm => ?_⟩
    · rw [up_cell _ _ _ _ (by decide), up_cell _ _ _ _ (by decide), q_up_at]
      show upd (h 18) k (nI q) j = upd s.2.1 k (nI q) j
      unfold upd
      split
      · rfl
      · exact hS.2.2.1 j hj
    · obtain ⟨b, b1, b2⟩ := hS.2.2.2.1
      exact ⟨b, by rw [up_row _ _ _ _ (by decide), up_cell _ _ _ _ (by decide), up_cell _ _ _ _ (by decide)]; exact b1, b2⟩
    · rw [up_cell _ _ _ _ (by decide), q_up_at, up_cell _ _ _ _ (by decide)]
      exact hS.2.2.2.2.1.take hk (by omega) hf h1 hG
    · have hm : upd s.2.1 k (nI q) j = -1 := hm
      unfold upd at hm
      split at hm
      · exact absurd hm (a_m1 q (by omega))
      · exact hS.2.2.2.2.2 j hj hm
  have e2k : (q_up (q_up (q_up h 18 k (nI q)) 19 q (nI k)) 16 5 (nI (sdf s.1 (2 ^ q)))) 2 k = nI (kd k) := by rw [o1 2 (by decide)]; exact (hh k hk).1
  have hkd := (hh k hk).2.1
  rw [e2k, show (3 : Int32) = nI 3 from rfl, nI_eq (by omega) (by decide)]
  refine ⟨fun hc => ?_, fun hc => kk _ _ o1 x1 ⟨rfl, Or.inl ⟨hc, rfl, rfl⟩⟩⟩
  have hFk : ¬ (sdf s.1 (2 ^ q), upd s.2.1 k (nI q), s.2.2).2.1 k = -1 := by simp only [upd, if_true]; exact a_m1 q (by omega)
  refine l_one29 (g := g) (s := (sdf s.1 (2 ^ q), upd s.2.1 k (nI q), s.2.2)) (hT0.keep o1 (by decide)) x1 hk hq hG hFk (fun hno => ?_) (fun h2 r o2 hr x2 => ?_) (p / 2 + 1 - 1) 1 rfl (by omega) (fun r hr hb => ?_)
  · exact kk _ (sdf s.1 (2 ^ q), upd s.2.1 k (nI q), s.2.2) o1 x1 ⟨rfl, Or.inr (Or.inr ⟨hc, hno, rfl, (upd_same hG).symm⟩)⟩
  · exact kk h2 _ (o1.trans o2) x2 ⟨rfl, Or.inr (Or.inl ⟨hc, r, hr, rfl, rfl⟩)⟩
  · have hb : (sdf s.1 (2 ^ q)).testBit r = true := hb
    rw [sdf_tb, Bool.and_eq_true] at hb
    have hne : r ≠ q := fun e => by
      subst e
      rw [Nat.testBit_two_pow_self] at hb
      cases hb.2
    unfold dst
    rw [dst_on hq hr]
    split <;> split <;> omega
theorem Tak.sub {p : Nat} {kd : Nat → Nat} {k q : Nat} {s t : Sg} (h : Tak p kd k q s t) {r : Nat} (hb : t.1.testBit r = true) : s.1.testBit r = true := by
  have key : ∀ a b, (sdf a b).testBit r = true → a.testBit r = true := fun a b hh => by
    rw [sdf_tb, Bool.and_eq_true] at hh; exact hh.1
  rcases h.2 with ⟨-, e, -⟩ | ⟨-, r2, -, e, -⟩ | ⟨-, -, e, -⟩
  · rw [e] at hb; exact key _ _ hb
  · rw [e] at hb; exact key _ _ (key _ _ hb)
  · rw [e] at hb; exact key _ _ hb
theorem eI_add (e z : Nat) : eI e + nI z = eI (e + z) := by unfold eI; rw [i_sub_add, nI_add]
/-- pairs that are left come later than (E, G) -/
def Ord (A : Nat → Nat → Prop) (e : Nat → Nat → Nat) (E G : Nat) : Prop := ∀ k q, A k q → E < e k q ∨ (E = e k q ∧ G ≤ k)
theorem l_all29 {p n W E : Nat} {kd at_ : Nat → Nat} {z : Sg} {h0 : Hp} (hE : E ≤ 15)
    (kk : ∀ (h2 : Hp) (s : Sg) (Wt : Nat), Only [16, 18, 19] h0 h2 → XT h2 p n kd at_ → XS h2 n s → (∃ k, SgI (SgS p n kd at_ W) k z s) → Std n W s.2.1 Wt → Wt < 64 → Ord (av p n W s) (ef p kd at_) (E + 1) 0 → wX3_seatAll_4 g K h2 (nI Wt) (eI (E + 1))) : ∀ (d G : Nat) (h : Hp) (s : Sg) (Wt : Nat), n - G = d → G ≤ n → Only [16, 18, 19] h0 h → XT h p n kd at_ → XS h n s → (∃ k, SgI (SgS p n kd at_ W) k z s) → Std n W s.2.1 Wt → Wt < 64 → Ord (av p n W s) (ef p kd at_) E G → wX3_seatAll_29 g K h (nI Wt) (eI E) (nI G) := by
  intro d
  induction d with
  | zero =>
    intro G h s Wt hd hG ho hT hS hI hW hWt hO
    have e : G = n := by omega
    subst e
    refine vX3_seatAll_29 ⟨fun _ => ?_, fun hc => absurd (by rw [hT.2.2.2.2.1]; exact nI_le (Nat.le_refl _) (by have := hT.2.1; omega)) hc⟩
    rw [show (1 : Int32) = nI 1 from rfl, eI_add]
    refine kk h s Wt ho hT hS hI hW hWt (fun k q ha => ?_)
    have := hO k q ha
    have := ha.1
    omega
  | succ d ih =>
    intro G h s Wt hd hG ho hT hS hI hW hWt hO
    have hT0 := hT
    obtain ⟨hp, hn, hp0, e0, e2, hh⟩ := hT
    have hGn : G < n := by omega
    obtain ⟨k1, k2, k3, k4⟩ := hh G hGn
    -- nothing for G at this effort
    have skip : (∀ q, ¬ (av p n W s G q ∧ ef p kd at_ G q = E)) → wX3_seatAll_29 g K h (nI Wt) (eI E) (nI G + 1) := by
      intro hno
      rw [nI_1]
      refine ih (G + 1) h s Wt (by omega) (by omega) ho hT0 hS hI hW hWt (fun k q ha => ?_)
      rcases hO k q ha with h5 | ⟨h5, h6⟩
      · exact Or.inl h5
      · refine Or.inr ⟨h5, ?_⟩
        by_cases e : k = G
        · subst e; exact absurd ⟨ha, h5.symm⟩ (hno q)
        · omega
    refine vX3_seatAll_29 ⟨fun hc => ?_, fun _ => ?_⟩
    · rw [e2, nI_leI (by omega) (by omega)] at hc; omega
    · refine c_holds (by omega) (by omega) (br_b (fun e1 => ?_) (fun e1 => ⟨vp_in_nI (by omega) (by decide), ?_⟩))
      · refine vX3_seatAll_83 ⟨fun _ => skip (fun q hq => ?_), fun hc => absurd rfl hc⟩
        have := hW G
        rw [e1, hq.1.2.2.1, hq.1.2.2.2.1] at this
        simp [hGn] at this
      · rw [ix_nI (by omega), k3]
        have hwg := hW G
        rw [e1] at hwg
        have hb1 : W.testBit G = true ∧ s.2.1 G = -1 := by simpa [hGn] using hwg.symm
        refine c_ease (by omega) (by omega) k1 ?_
        rw [eI_add, hS.1]
        have hef : ∀ q, (dst p (at_ G) q + 1 = E + (if kd G = 1 then 1 else 0)) ↔ ef p kd at_ G q = E := by
          intro q
          unfold ef
          split <;> omega
        refine c_leastAt hp k4 (by split <;> omega) hS.2.1 e0 (fun hno => ?_) (fun q hq1 hq2 hq3 hq4 => ?_)
        · refine vX3_seatAll_83 ⟨fun _ => skip (fun q hq => ?_), fun hc => absurd rfl hc⟩
          have := hno q hq.1.2.1 ((hef q).mpr hq.2)
          rw [hq.1.2.2.2.2] at this
          cases this
        · refine vX3_seatAll_83 ⟨fun hc => absurd hc (a_m1 q (by omega)), fun _ => ?_⟩
          refine c_seatOne hT0 hS hGn hq1 hq3 hb1.2 (fun h2 t o2 x2 hK => ?_)
          have hefq := (hef q).mp hq2
          have hl : Lst (av p n W s) (ef p kd at_) G q := by
            refine ⟨⟨hGn, hq1, hb1.1, hb1.2, hq3⟩, fun k q2 ha => ?_⟩
            rw [hefq]
            rcases hO k q2 ha with h5 | ⟨h5, h6⟩
            · exact Or.inl h5
            · refine Or.inr ⟨h5, ?_⟩
              by_cases e : k = G
              · subst e
                exact Or.inr ⟨rfl, hq4 q2 ha.2.1 ((hef q2).mpr h5.symm) ha.2.2.2.2⟩
              · exact Or.inl (by omega)
          have h2G : 2 ^ G < 64 := p_lt (n := 6) (by omega)
          rw [a_shl1 (by omega), a_sdf (by omega) (by omega), nI_1]
          obtain ⟨kI, hI⟩ := hI
          refine ih (G + 1) h2 t (sdf Wt (2 ^ G)) (by omega) (by omega) (ho.trans o2) (hT0.keep o2 (by decide)) x2 ⟨kI + 1, hI.snoc ⟨G, q, hl, hK⟩⟩ (fun j => ?_) (sdf_le (n := 6) hWt) (fun k q2 ha => ?_)
          · rw [sdf_tb, hW j, hK.1]
            by_cases e : j = G
            · subst e
              have : ¬ upd s.2.1 j (nI q) j = -1 := by simp only [upd, if_true]; exact a_m1 q (by omega)
              simp [this, Nat.testBit_two_pow_self]
            · rw [Nat.testBit_two_pow_of_ne (Ne.symm e)]
              simp [upd, e]
          · have ha4 : t.2.1 k = -1 := ha.2.2.2.1
            rw [hK.1] at ha4
            have hne : k ≠ G := fun e => by
              subst e
              simp only [upd, if_true] at ha4
              exact a_m1 q (by omega) ha4
            simp only [upd, hne, if_false] at ha4
            rcases hO k q2 ⟨ha.1, ha.2.1, ha.2.2.1, ha4, hK.sub ha.2.2.2.2⟩ with h5 | ⟨h5, h6⟩
            · exact Or.inl h5
            · exact Or.inr ⟨h5, by omega⟩
theorem l_all4 {p n W : Nat} {kd at_ : Nat → Nat} {z : Sg} {h0 : Hp} (kk : ∀ (h2 : Hp) (t : Sg) (S : Nat), Only [16, 18, 19] h0 h2 → XS h2 n t → SgD p n kd at_ W z t → Std n W t.2.1 S → S < 64 → K (nI S) h2) : ∀ (d E : Nat) (h : Hp) (s : Sg) (Wt : Nat), p / 2 + 2 - E = d → E ≤ p / 2 + 2 → Only [16, 18, 19] h0 h → XT h p n kd at_ → XS h n s → (∃ k, SgI (SgS p n kd at_ W) k z s) → Std n W s.2.1 Wt → Wt < 64 → Ord (av p n W s) (ef p kd at_) E 0 → wX3_seatAll_4 g K h (nI Wt) (eI E) := by
  intro d
  induction d with
  | zero =>
    intro E h s Wt hd hE ho hT hS hI hW hWt hO
    obtain ⟨hp, hn, hp0, e0, e2, hh⟩ := hT
    have hno : ∀ k q, ¬ av p n W s k q := fun k q ha => by
      have := hO k q ha
      have := ef_le (kd := kd) (hh k ha.1).2.2.2 ha.2.1
      omega
    refine vX3_seatAll_4 (c_farthest (by omega) e0 ⟨fun _ => kk h s Wt ho hS ⟨hI, hno⟩ hW hWt, fun hc => ?_⟩)
    rw [i_lt, nI_toInt (by omega), eI_toInt (by omega)] at hc
    omega
  | succ d ih =>
    intro E h s Wt hd hE ho hT hS hI hW hWt hO
    have hT0 := hT
    obtain ⟨hp, hn, hp0, e0, e2, hh⟩ := hT
    refine vX3_seatAll_4 (c_farthest (by omega) e0 ⟨fun hc => ?_, fun _ => ⟨fun hc => ?_, fun _ => ⟨fun hc => ?_, fun _ => ?_⟩⟩⟩)
    · rw [i_lt, nI_toInt (by omega), eI_toInt (by omega)] at hc
      omega
    · rw [hS.1, show (0 : Int32) = nI 0 from rfl, nI_eq (by have := hS.2.1; omega) (by decide)] at hc
      refine kk h s Wt ho hS ⟨hI, fun k q ha => ?_⟩ hW hWt
      have := ha.2.2.2.2
      rw [hc, Nat.zero_testBit] at this
      cases this
    · rw [show (0 : Int32) = nI 0 from rfl, nI_eq (by omega) (by decide)] at hc
      refine kk h s Wt ho hS ⟨hI, fun k q ha => ?_⟩ hW hWt
      have := hW k
      rw [hc, Nat.zero_testBit, ha.2.2.1, ha.2.2.2.1] at this
      simp [ha.1] at this
    · exact l_all29 (g := g) (by omega) (fun h2 s2 Wt2 o2 hT2 hS2 hI2 hW2 hWt2 hO2 => ih (E + 1) h2 s2 Wt2 (by omega) (by omega) o2 hT2 hS2 hI2 hW2 hWt2 hO2) n 0 h s Wt rfl (Nat.zero_le _) ho hT0 hS hI hW hWt hO
theorem c_seatAll {p n W : Nat} {kd at_ : Nat → Nat} {s : Sg} (hT : XT h p n kd at_) (hS : XS h n s) (hW : Std n W s.2.1 W) (hWt : W < 64) (kk : ∀ (h2 : Hp) (t : Sg) (S : Nat), Only [16, 18, 19] h h2 → XS h2 n t → SgD p n kd at_ W s t → Std n W t.2.1 S → S < 64 → K (nI S) h2) : FI g mX3_seatAll [.ref 16, .int (nI W)] h K :=
  eX3_seatAll (vX3_seatAll_0 (l_all4 (g := g) kk _ 0 h s W rfl (Nat.zero_le _) (Only.rf h) hT hS ⟨0, rfl⟩ hW hWt (fun k q _ => by omega)))
end Xa
