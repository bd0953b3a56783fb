/-! the reference's findsTwo, takeSecond, seat, stops -/
section Mf
variable {g : QG} {h : Hp} {K : Int32 → Hp → Prop} {KV : Hp → Prop}
theorem k_two85 {a1 a2 a3 a4 s0 : Int32} (hA : a2 ≤ s0 → wX8_findsTwo_16 g K (q_up (q_up h 44 24 (h 44 24)) 44 25 (h 44 25)) a1 a2 a3 (a4 + 1)) (hB : ¬ a2 ≤ s0 → wX8_findsTwo_16 g K (q_up (q_up h 44 24 a3) 44 25 a4) a1 s0 a3 (a4 + 1)) : wX8_findsTwo_85 g K h a1 a2 a3 a4 s0 := by
  refine vX8_findsTwo_85 ⟨fun hc => ⟨fun _ => ?_, fun hd => absurd hc hd⟩, fun hc => ⟨fun hd => absurd hd hc, fun _ => ?_⟩⟩
  · exact vX8_findsTwo_121 ⟨fun _ => hA hc, fun hd => absurd hc hd⟩
  · exact vX8_findsTwo_121 ⟨fun hd => absurd hd hc, fun _ => hB hc⟩
theorem upup_same (h : Hp) (k i j : Nat) : q_up (q_up h k i (h k i)) k j (h k j) = h := by
  funext q r
  unfold q_up upd
  by_cases e : q = k
  · subst e; simp; split <;> simp_all
  · simp [e]
theorem l_two16 {p n W : Nat} {kd at_ : Nat → Nat} {s : Sg} (hW : W < 2 ^ 31) {G : Nat} (hG : G < n) : ∀ (d Q : Nat) (h : Hp) (a2 : Int32), p - Q = d → Q ≤ p → MT h p n kd at_ → MS h s → Scn (av p n W s) (ef p kd at_) G Q h a2 →
    (∀ (h2 : Hp) (b2 : Int32), OnlyM [] [24, 25] h h2 → Scn (av p n W s) (ef p kd at_) (G + 1) 0 h2 b2 → wX8_findsTwo_5 g K h2 (nI W) b2 (nI (G + 1))) → wX8_findsTwo_16 g K h (nI W) a2 (nI G) (nI Q) := by
  intro d
  induction d with
  | zero =>
    intro Q h a2 hd hQ hT hS hs kk
    have hQp : Q = p := by omega
    subst hQp
    refine vX8_findsTwo_16 ⟨fun _ => ?_, fun hc => absurd (by rw [hT.2.2.2.1]; exact nI_le (Nat.le_refl _) (by have := hT.1; omega)) hc⟩
    rw [nI_1]
    exact kk h a2 (OnlyM.rf h) (hs.row (fun g q ha => ha.2.1))
  | succ d ih =>
    intro Q h a2 hd hQ hT hS hs kk
    obtain ⟨hp, hn, hp0, e6, e13, hk⟩ := hT
    have hT : MT h p n kd at_ := ⟨hp, hn, hp0, e6, e13, hk⟩
    obtain ⟨k1, k2, k3, k4⟩ := hk G hG
    have hQ2 : Q < p := by omega
    have hlt : ∀ g q, av p n W s g q → ef p kd at_ g q < 100 := fun g q ha => by
      have := ef_le (kd := kd) (at_ := at_) (g := g) (q := q) (hk g ha.1).2.2.2 ha.2.1
      omega
    -- on to the next place
    have step : ∀ (h2 : Hp) (b2 : Int32), OnlyM [] [24, 25] h h2 → Scn (av p n W s) (ef p kd at_) G (Q + 1) h2 b2 → wX8_findsTwo_16 g K h2 (nI W) b2 (nI G) (nI Q + 1) := by
      intro h2 b2 ho hs2
      rw [nI_1]
      refine ih (Q + 1) h2 b2 (by omega) (by omega) (hT.keep ho (by decide) (by decide)) ⟨by rw [ho.2 23 (by decide)]; exact hS.1, hS.2.1, fun k hk => by rw [ho.1 55 (by decide) (by decide)]; exact hS.2.2.1 k hk, fun k hk => by rw [ho.1 56 (by decide) (by decide)]; exact hS.2.2.2 k hk⟩ hs2 (fun h3 b3 ho3 hs3 => kk h3 b3 (ho.trans ho3) hs3)
    have no : ¬ av p n W s G Q → wX8_findsTwo_60 g K h (nI W) a2 (nI G) (nI Q) 0 := by
      intro hno
      refine vX8_findsTwo_60 ⟨fun _ => ?_, fun hc => absurd rfl hc⟩
      have e99 : (99 : Int32) = eI 100 := by decide
      rw [e99]
      refine k_two85 (fun hc => ?_) (fun hc => ?_)
      · rw [upup_same]
        exact step h a2 (OnlyM.rf h) (hs.next hno rfl rfl)
      · exfalso
        rcases hs with ⟨h1, -⟩ | ⟨g0, q0, b1, -, b3, -⟩
        · rw [h1] at hc
          exact hc ((eI_le (by decide) (by decide)).mpr (Nat.le_refl _))
        · have := hlt g0 q0 b1
          rw [b3] at hc
          exact hc ((eI_le (by omega) (by decide)).mpr (by omega))
    have yes : av p n W s G Q → wX8_findsTwo_60 g K h (nI W) a2 (nI G) (nI Q) 1 := by
      intro hyes
      refine vX8_findsTwo_60 ⟨fun hc => absurd hc (by decide), fun _ => ⟨vp_in_nI (by omega) (by decide), ?_⟩⟩
      rw [ix_nI (by omega), k3]
      refine c_effort (kd := kd) hp (by omega) k4 hQ2 e6 rfl (by omega) k1 ?_
      refine k_two85 (fun hc => ?_) (fun hc => ?_)
      · rw [upup_same]
        exact step h a2 (OnlyM.rf h) (hs.keep hyes (hlt G Q hyes) hlt hc rfl rfl)
      · exact step _ _ ((OnlyM.upF (by decide)).trans (OnlyM.upF (by decide))) (hs.better hyes (hlt G Q hyes) hlt hc (by rw [up_row _ _ _ _ (by decide), up_at]) (up_at _ _ _ _))
    refine vX8_findsTwo_16 ⟨fun hc => ?_, fun _ => ?_⟩
    · rw [e6, nI_leI (by omega) (by omega)] at hc
      omega
    · refine c_has hW (by omega) (br_b (fun e1 => ?_) (fun e1 => ⟨vp_in_nI (by omega) (by decide), ?_⟩))
      · exact no (fun ha => by rw [ha.2.2.1] at e1; cases e1)
      · rw [ix_nI (by omega), hS.2.2.1 G (by omega)]
        refine ⟨fun hc => no (fun ha => hc ha.2.2.2.1), fun hc => ?_⟩
        rw [hS.1]
        refine c_has (by have := hS.2.1; omega) (by omega) (br_b (fun e2 => ?_) (fun e2 => ?_))
        · exact no (fun ha => by rw [ha.2.2.2.2] at e2; cases e2)
        · exact yes ⟨hG, hQ2, e1, hc, e2⟩
theorem l_two5 {p n W : Nat} {kd at_ : Nat → Nat} {s : Sg} (hW : W < 2 ^ 31) : ∀ (d G : Nat) (h : Hp) (a2 : Int32), n - G = d → G ≤ n → MT h p n kd at_ → MS h s → Scn (av p n W s) (ef p kd at_) G 0 h a2 →
    (∀ h2 : Hp, OnlyM [] [24, 25] h h2 → (∀ g q, ¬ av p n W s g q) → K 0 h2) → (∀ (h2 : Hp) (g0 q0 : Nat), OnlyM [] [24, 25] h h2 → Lst (av p n W s) (ef p kd at_) g0 q0 → h2 44 24 = nI g0 → h2 44 25 = nI q0 → K 1 h2) → wX8_findsTwo_5 g K h (nI W) a2 (nI G) := by
  intro d
  induction d with
  | zero =>
    intro G h a2 hd hG hT hS hs k0 k1
    have e : G = n := by omega
    subst e
    refine vX8_findsTwo_5 ⟨fun _ => ?_, fun hc => absurd (by rw [hT.2.2.2.2.1]; exact nI_le (Nat.le_refl _) (by have := hT.2.1; omega)) hc⟩
    have e99 : (99 : Int32) = eI 100 := by decide
    rcases hs with ⟨h1, h3⟩ | ⟨g0, q0, b1, b2, b3, b4, b5, b6⟩
    · rw [h1, e99]
      refine ⟨fun _ => k0 h (OnlyM.rf h) (fun g q ha => ?_), fun hc => absurd ((eI_le (by decide) (by decide)).mpr (Nat.le_refl _)) hc⟩
      have := h3 g q ha
      have := ha.1
      omega
    · have hlt := ef_le (kd := kd) (at_ := at_) (g := g0) (q := q0) (hT.2.2.2.2.2 g0 b1.1).2.2.2 b1.2.1
      have := hT.1
      rw [b3, e99]
      refine ⟨fun hc => ?_, fun _ => k1 h g0 q0 (OnlyM.rf h) ⟨b1, fun g q ha => b6 g q ha (by have := ha.1; omega)⟩ b4 b5⟩
      rw [eI_le (by decide) (by omega)] at hc
      omega
  | succ d ih =>
    intro G h a2 hd hG hT hS hs k0 k1
    refine vX8_findsTwo_5 ⟨fun hc => ?_, fun _ => ?_⟩
    · rw [hT.2.2.2.2.1, nI_leI (by have := hT.2.1; omega) (by have := hT.2.1; omega)] at hc
      omega
    · refine l_two16 (g := g) (K := K) hW (G := G) (by omega) p 0 h a2 rfl (Nat.zero_le _) hT hS hs (fun h2 b2 ho hs2 => ?_)
      exact ih (G + 1) h2 b2 (by omega) (by omega) (hT.keep ho (by decide) (by decide)) ⟨by rw [ho.2 23 (by decide)]; exact hS.1, hS.2.1, fun k hk => by rw [ho.1 55 (by decide) (by decide)]; exact hS.2.2.1 k hk, fun k hk => by rw [ho.1 56 (by decide) (by decide)]; exact hS.2.2.2 k hk⟩ hs2 (fun h3 ho3 hno => k0 h3 (ho.trans ho3) hno) (fun h3 g0 q0 ho3 hl e1 e2 => k1 h3 g0 q0 (ho.trans ho3) hl e1 e2)
theorem c_findsTwo {p n W : Nat} {kd at_ : Nat → Nat} {s : Sg} (hW : W < 2 ^ 31) (hT : MT h p n kd at_) (hS : MS h s) (k0 : ∀ h2 : Hp, OnlyM [] [24, 25] h h2 → (∀ g q, ¬ av p n W s g q) → K 0 h2) (k1 : ∀ (h2 : Hp) (g0 q0 : Nat), OnlyM [] [24, 25] h h2 → Lst (av p n W s) (ef p kd at_) g0 q0 → h2 44 24 = nI g0 → h2 44 25 = nI q0 → K 1 h2) : FI g mX8_findsTwo [.ref 44, .int (nI W)] h K := by
  refine eX8_findsTwo (vX8_findsTwo_0 ?_)
  have e99 : (99 : Int32) = eI 100 := by decide
  rw [e99]
  exact l_two5 (g := g) (K := K) hW n 0 h (eI 100) rfl (Nat.zero_le _) hT hS (Or.inl ⟨rfl, fun g q _ => by omega⟩) k0 k1
end Mf
