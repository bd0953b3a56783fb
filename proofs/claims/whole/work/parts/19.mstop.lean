/-! the reference's takeSecond, seat, faint, stops -/
/-- the guests of a kind -/
def fset (kd : Nat → Nat) (w : Nat) : Nat → Nat
  | 0 => 0
  | n + 1 => fset kd w n ||| (if kd n = w then 2 ^ n else 0)
theorem fset_tb (kd : Nat → Nat) (w : Nat) : ∀ n g, (fset kd w n).testBit g = (decide (g < n) && decide (kd g = w))
  | 0, g => by simp [fset]
  | n + 1, g => by
    rw [fset, Nat.testBit_or, fset_tb kd w n g]
    by_cases e : g = n
    · subst e
      by_cases hk : kd g = w <;> simp [hk]
    · by_cases hk : kd n = w
      · rw [if_pos hk, Nat.testBit_two_pow_of_ne (Ne.symm e), Bool.or_false]
        by_cases h2 : g < n
        · simp [h2, Nat.lt_succ_of_lt h2]
        · simp [h2, show ¬ g < n + 1 by omega]
      · rw [if_neg hk, Nat.zero_testBit, Bool.or_false]
        by_cases h2 : g < n
        · simp [h2, Nat.lt_succ_of_lt h2]
        · simp [h2, show ¬ g < n + 1 by omega]
theorem fset_lt (kd : Nat → Nat) (w : Nat) : ∀ n, fset kd w n < 2 ^ n
  | 0 => by simp [fset]
  | n + 1 => by
    have := fset_lt kd w n
    have h2 : (if kd n = w then 2 ^ n else 0) < 2 ^ (n + 1) := by split <;> (rw [Nat.pow_succ]; have := Nat.one_le_two_pow (n := n); omega)
    exact Nat.or_lt_two_pow (by rw [Nat.pow_succ]; omega) h2
theorem fset_fnt (n : Nat) (kd : Nat → Nat) : Fnt n kd (fset kd 2 n) := fun g => fset_tb kd 2 n g
theorem p64 {n k : Nat} (hn : n ≤ 6) (h : k < 2 ^ n) : k < 64 := Nat.lt_of_lt_of_le h (Nat.pow_le_pow_right (by decide) hn)
theorem p_lt {n k : Nat} (hk : k < n) : 2 ^ k < 2 ^ n := Nat.pow_lt_pow_right (by decide) hk
/-- how many are without a chair -/
def cf (F : Nat → Int32) (k : Nat) : Nat := if F k = -1 then 1 else 0
def cntF (F : Nat → Int32) : Nat := cf F 0 + cf F 1 + cf F 2 + cf F 3 + cf F 4 + cf F 5
theorem cf_ne {F : Nat → Int32} {g k : Nat} {v : Int32} (h : k ≠ g) : cf (upd F g v) k = cf F k := by simp [cf, upd, h]
theorem cf_at {F : Nat → Int32} {g q : Nat} (hq : q < 4096) : cf (upd F g (nI q)) g = 0 := by simp [cf, upd, a_m1 q (by omega)]
theorem cf_m1 {F : Nat → Int32} {g : Nat} (h : F g = -1) : cf F g = 1 := by simp [cf, h]
theorem cntF_upd {F : Nat → Int32} {g q : Nat} (hg : g < 6) (hF : F g = -1) (hq : q < 4096) : cntF (upd F g (nI q)) < cntF F := by
  have h0 := cf_at (F := F) (g := g) hq
  have h1 := cf_m1 hF
  unfold cntF
  rcases (by omega : g = 0 ∨ g = 1 ∨ g = 2 ∨ g = 3 ∨ g = 4 ∨ g = 5) with rfl | rfl | rfl | rfl | rfl | rfl
  · rw [h0, cf_ne (k := 1) (by decide), cf_ne (k := 2) (by decide), cf_ne (k := 3) (by decide), cf_ne (k := 4) (by decide), cf_ne (k := 5) (by decide)]; omega
  · rw [h0, cf_ne (k := 0) (by decide), cf_ne (k := 2) (by decide), cf_ne (k := 3) (by decide), cf_ne (k := 4) (by decide), cf_ne (k := 5) (by decide)]; omega
  · rw [h0, cf_ne (k := 1) (by decide), cf_ne (k := 0) (by decide), cf_ne (k := 3) (by decide), cf_ne (k := 4) (by decide), cf_ne (k := 5) (by decide)]; omega
  · rw [h0, cf_ne (k := 1) (by decide), cf_ne (k := 2) (by decide), cf_ne (k := 0) (by decide), cf_ne (k := 4) (by decide), cf_ne (k := 5) (by decide)]; omega
  · rw [h0, cf_ne (k := 1) (by decide), cf_ne (k := 2) (by decide), cf_ne (k := 3) (by decide), cf_ne (k := 0) (by decide), cf_ne (k := 5) (by decide)]; omega
  · rw [h0, cf_ne (k := 1) (by decide), cf_ne (k := 2) (by decide), cf_ne (k := 3) (by decide), cf_ne (k := 4) (by decide), cf_ne (k := 0) (by decide)]; omega
section Mt
variable {g : QG} {h : Hp} {K : Int32 → Hp → Prop} {KV : Hp → Prop}
/-- the scan for a second chair -/
def Scd (p fr q0 Q : Nat) (a2 a3 : Int32) : Prop := (a2 = nI 99 ∧ a3 = -1 ∧ ∀ r, r < Q → fr.testBit r = false) ∨
  ∃ r, r < Q ∧ a3 = nI r ∧ a2 = nI (dst p q0 r) ∧ fr.testBit r = true ∧ ∀ r2, r2 < Q → fr.testBit r2 = true → dst p q0 r < dst p q0 r2 ∨ (dst p q0 r = dst p q0 r2 ∧ r ≤ r2)
theorem l_sec8 {p fr q0 k : Nat} (hp : p ≤ 12) (hk : k < 6) (e6 : h 44 6 = nI p) (e23 : h 44 23 = nI fr) (hfr : fr < 4096) (e55 : h 55 k = nI q0) (hq0 : q0 < p)
    (ky : ∀ r, Near p fr q0 r → KV (q_up (q_up h 56 k (nI r)) 44 23 (nI (sdf fr (2 ^ r))))) (kn : (∀ r, r < p → fr.testBit r = false) → KV (q_up (q_up h 56 k (-1)) 44 23 (nI fr))) : ∀ (d Q : Nat) (a2 a3 : Int32), p - Q = d → Q ≤ p → Scd p fr q0 Q a2 a3 → wX8_takeSecond_8 g KV h (nI k) a2 a3 (nI Q) := by
  intro d
  induction d with
  | zero =>
    intro Q a2 a3 hd hQ hs
    have e : Q = p := by omega
    subst e
    refine vX8_takeSecond_8 ⟨fun _ => ⟨vp_in_nI hk (by decide), ?_⟩, fun hc => absurd (by rw [e6]; exact nI_le (Nat.le_refl _) (by omega)) hc⟩
    rw [ix_nI (by omega), e23]
    rcases hs with ⟨-, e3, hno⟩ | ⟨r, hr, e3, e2, hb, hl⟩
    · subst e3
      refine ⟨fun hc => absurd rfl hc, fun _ => ?_⟩
      have := kn hno
      rw [show nI fr &&& (-1) = nI fr from by
        apply Int32.toBitVec_inj.mp
        rw [Int32.toBitVec_and, show (-1 : Int32).toBitVec = BitVec.allOnes 32 by decide, BitVec.and_allOnes]]
      exact this
    · subst e3
      refine ⟨fun _ => ?_, fun hc => absurd hc (a_m1 r (by omega))⟩
      rw [a_shl1 (by omega), a_sdf (by omega) (Nat.lt_of_lt_of_le (p_lt (n := 12) (by omega)) (by decide))]
      exact ky r ⟨hr, hb, hl⟩
  | succ d ih =>
    intro Q a2 a3 hd hQ hs
    have hQp : Q < p := by omega
    have go60 : ∀ (a5 v : Int32), (a2 ≤ a5 → v = a3) → (¬ a2 ≤ a5 → v = nI Q) → (a2 ≤ a5 → Scd p fr q0 (Q + 1) a2 a3) → (¬ a2 ≤ a5 → Scd p fr q0 (Q + 1) a5 (nI Q)) → wX8_takeSecond_60 g KV h (nI k) a2 (nI Q) a5 v := by
      intro a5 v h1 h2 h3 h4
      refine vX8_takeSecond_60 ⟨fun hc => ?_, fun hc => ?_⟩
      · rw [nI_1, h1 hc]
        exact ih (Q + 1) a2 a3 (by omega) (by omega) (h3 hc)
      · rw [nI_1, h2 hc]
        exact ih (Q + 1) a5 (nI Q) (by omega) (by omega) (h4 hc)
    refine vX8_takeSecond_8 ⟨fun hc => ?_, fun _ => ?_⟩
    · rw [e6, nI_leI (by omega) (by omega)] at hc
      omega
    · rw [e23]
      refine c_has (by omega) (by omega) (br_b (fun e1 => ?_) (fun e1 => ⟨vp_in_nI hk (by decide), ?_⟩))
      · have hle : a2 ≤ 99 := by
          rw [show (99 : Int32) = nI 99 from rfl]
          rcases hs with ⟨e2, -, -⟩ | ⟨r, hr, -, e2, -, -⟩
          · rw [e2]; exact nI_le (Nat.le_refl _) (by decide)
          · rw [e2]; have := dst_le hq0 (show r < p by omega); exact nI_le (by omega) (by decide)
        have hs2 : Scd p fr q0 (Q + 1) a2 a3 := by
          rcases hs with ⟨e2, e3, hno⟩ | ⟨r, hr, e3, e2, hb, hl⟩
          · refine Or.inl ⟨e2, e3, fun r hr => ?_⟩
            by_cases e : r = Q
            · rw [e]; exact e1
            · exact hno r (by omega)
          · refine Or.inr ⟨r, by omega, e3, e2, hb, fun r2 hr2 hb2 => ?_⟩
            by_cases e : r2 = Q
            · rw [e, e1] at hb2; cases hb2
            · exact hl r2 (by omega) hb2
        exact ⟨fun hc => go60 99 a3 (fun _ => rfl) (fun hd => absurd hle hd) (fun _ => hs2) (fun hd => absurd hle hd), fun hc => absurd hle hc⟩
      · rw [ix_nI (by omega), e55]
        have hdl := dst_le hq0 hQp
        refine c_far hp hq0 hQp e6 ?_
        have hs2 : (a2 ≤ nI (dst p q0 Q) → Scd p fr q0 (Q + 1) a2 a3) ∧ (¬ a2 ≤ nI (dst p q0 Q) → Scd p fr q0 (Q + 1) (nI (dst p q0 Q)) (nI Q)) := by
          rcases hs with ⟨e2, e3, hno⟩ | ⟨r, hr, e3, e2, hb, hl⟩
          · subst e2
            refine ⟨fun hc => ?_, fun hc => ?_⟩
            · rw [nI_leI (by decide) (by omega)] at hc; omega
            · refine Or.inr ⟨Q, by omega, rfl, rfl, e1, fun r2 hr2 hb2 => ?_⟩
              by_cases e : r2 = Q
              · rw [e]; omega
              · rw [hno r2 (by omega)] at hb2; cases hb2
          · subst e2
            have hd2 := dst_le hq0 (show r < p by omega)
            rw [nI_leI (by omega) (by omega)]
            refine ⟨fun hc => Or.inr ⟨r, by omega, e3, rfl, hb, fun r2 hr2 hb2 => ?_⟩, fun hc => Or.inr ⟨Q, by omega, rfl, rfl, e1, fun r2 hr2 hb2 => ?_⟩⟩
            · by_cases e : r2 = Q
              · rw [e]; omega
              · exact hl r2 (by omega) hb2
            · by_cases e : r2 = Q
              · rw [e]; omega
              · have := hl r2 (by omega) hb2; omega
        exact ⟨fun hc => go60 _ a3 (fun _ => rfl) (fun hd => absurd hc hd) hs2.1 hs2.2, fun hc => go60 _ (nI Q) (fun hd => absurd hd hc) (fun _ => rfl) hs2.1 hs2.2⟩
theorem c_takeSecond {p fr q0 k : Nat} (hp : p ≤ 12) (hk : k < 6) (e6 : h 44 6 = nI p) (e23 : h 44 23 = nI fr) (hfr : fr < 4096) (e55 : h 55 k = nI q0) (hq0 : q0 < p)
    (ky : ∀ r, Near p fr q0 r → KV (q_up (q_up h 56 k (nI r)) 44 23 (nI (sdf fr (2 ^ r))))) (kn : (∀ r, r < p → fr.testBit r = false) → KV (q_up (q_up h 56 k (-1)) 44 23 (nI fr))) : FV g mX8_takeSecond [.ref 44, .int (nI k)] h KV :=
  eX8_takeSecond (vX8_takeSecond_0 (l_sec8 (g := g) hp hk e6 e23 hfr e55 hq0 ky kn p 0 _ _ rfl (Nat.zero_le _) (Or.inl ⟨rfl, rfl, fun r hr => by omega⟩)))
theorem SgD.cons {p n : Nat} {kd at_ : Nat → Nat} {W : Nat} {s u t : Sg} (h : SgS p n kd at_ W s u) (h2 : SgD p n kd at_ W u t) : SgD p n kd at_ W s t := by
  obtain ⟨⟨k, i⟩, e⟩ := h2
  exact ⟨⟨k + 1, u, h, i⟩, e⟩
theorem l_seat {p n W : Nat} {kd at_ : Nat → Nat} (hW : W < 2 ^ 31) : ∀ (d : Nat) (s : Sg) (h : Hp), cntF s.2.1 ≤ d → MT h p n kd at_ → MS h s → (∀ (h2 : Hp) (t : Sg), OnlyM [55, 56] [23, 24, 25] h h2 → MS h2 t → SgD p n kd at_ W s t → KV h2) → wX8_seat_0 g KV h (nI W) := by
  intro d
  induction d with
  | zero =>
    intro s h hc hT hS kk
    refine vX8_seat_0 (c_findsTwo hW hT hS (fun h2 ho hno => ?_) (fun h2 g0 q0 ho hl e1 e2 => ?_))
    · refine ⟨fun _ => kk h2 s (ho.weaken (by decide) (by decide)) ⟨by rw [ho.2 23 (by decide)]; exact hS.1, hS.2.1, fun k hk => by rw [ho.1 55 (by decide) (by decide)]; exact hS.2.2.1 k hk, fun k hk => by rw [ho.1 56 (by decide) (by decide)]; exact hS.2.2.2 k hk⟩ ⟨⟨0, rfl⟩, hno⟩, fun hx => absurd rfl hx⟩
    · exfalso
      have hg : g0 < 6 := by have := hl.1.1; have := hT.2.1; omega
      have := cntF_upd (q := 0) hg hl.1.2.2.2.1 (by decide)
      omega
  | succ d ih =>
    intro s h hc hT hS kk
    refine vX8_seat_0 (c_findsTwo hW hT hS (fun h2 ho hno => ?_) (fun h2 g0 q0 ho hl e1 e2 => ?_))
    · refine ⟨fun _ => kk h2 s (ho.weaken (by decide) (by decide)) ⟨by rw [ho.2 23 (by decide)]; exact hS.1, hS.2.1, fun k hk => by rw [ho.1 55 (by decide) (by decide)]; exact hS.2.2.1 k hk, fun k hk => by rw [ho.1 56 (by decide) (by decide)]; exact hS.2.2.2 k hk⟩ ⟨⟨0, rfl⟩, hno⟩, fun hx => absurd rfl hx⟩
    · obtain ⟨hp, hn, hp0, e6, e13, hk⟩ := hT
      obtain ⟨a1, a2, a3, a4, a5⟩ := hl.1
      have hg6 : g0 < 6 := by omega
      have hq12 : q0 < 12 := by omega
      have h23 : h2 44 23 = nI s.1 := by rw [ho.2 23 (by decide)]; exact hS.1
      have h49 : h2 49 g0 = nI (kd g0) := by rw [ho.1 49 (by decide) (by decide)]; exact (hk g0 a1).1
      have hkd := (hk g0 a1).2.1
      have h2q : 2 ^ q0 < 4096 := p_lt (n := 12) hq12
      have hfr : sdf s.1 (2 ^ q0) < 4096 := sdf_le (n := 12) hS.2.1
      have e23 : h2 44 23 &&& ((1 : Int32) <<< (h2 44 25 &&& 31) ^^^ (-1)) = nI (sdf s.1 (2 ^ q0)) := by
        rw [h23, e2, a_shl1 (by omega), a_sdf (by have := hS.2.1; omega) (by omega)]
      refine ⟨fun hx => absurd hx (by decide), fun _ => ⟨by rw [e1]; exact vp_in_nI hg6 (by decide), by rw [e1]; exact vp_in_nI hg6 (by decide), ?_⟩⟩
      rw [e23, e1, ix_nI (by omega), h49, e2]
      have o1 : OnlyM [55, 56] [23, 24, 25] h (q_up (q_up h2 55 g0 (nI q0)) 44 23 (nI (sdf s.1 (2 ^ q0)))) := ((ho.weaken (by decide) (by decide)).trans (OnlyM.upC (by decide) (by decide))).trans (OnlyM.upF (by decide))
      have m55 : ∀ (v : Int32) (k : Nat), k < 6 → (q_up (q_up h2 55 g0 (nI q0)) 44 23 v) 55 k = upd s.2.1 g0 (nI q0) k := by
        intro v k hk6
        rw [up_cell _ _ _ _ (by decide), q_up_at]
        unfold upd
        split
        · rfl
        · rw [ho.1 55 (by decide) (by decide)]; exact hS.2.2.1 k hk6
      have m56 : ∀ (v : Int32) (k : Nat), k < 6 → (q_up (q_up h2 55 g0 (nI q0)) 44 23 v) 56 k = s.2.2 k := by
        intro v k hk6
        rw [up_cell _ _ _ _ (by decide), up_cell _ _ _ _ (by decide), ho.1 56 (by decide) (by decide)]; exact hS.2.2.2 k hk6
      refine ⟨fun hx => ?_, fun hx => ?_⟩
      · rw [show (3 : Int32) = nI 3 from rfl, nI_eq (by omega) (by decide)] at hx
        refine ih (sdf s.1 (2 ^ q0), upd s.2.1 g0 (nI q0), s.2.2) _ (by have := cntF_upd hg6 a4 (show q0 < 4096 by omega); show cntF (upd s.2.1 g0 (nI q0)) ≤ d; omega) (MT.keep ⟨hp, hn, hp0, e6, e13, hk⟩ o1 (by decide) (by decide)) ⟨up_at _ _ _ _, hfr, m55 _, m56 _⟩ (fun h3 t ho3 hM hD => kk h3 t (o1.trans ho3) hM (SgD.cons (u := (sdf s.1 (2 ^ q0), upd s.2.1 g0 (nI q0), s.2.2)) ⟨g0, q0, hl, rfl, Or.inl ⟨hx, rfl, rfl⟩⟩ hD))
      · rw [show (3 : Int32) = nI 3 from rfl, nI_eq (by omega) (by decide)] at hx
        refine c_takeSecond (p := p) (fr := sdf s.1 (2 ^ q0)) (q0 := q0) hp hg6 (by rw [o1.2 6 (by decide)]; exact e6) (up_at _ _ _ _) hfr (by rw [m55 _ g0 hg6]; simp [upd]) a2 (fun r hr => ?_) (fun hno => ?_)
        · have o2 : OnlyM [55, 56] [23, 24, 25] h (q_up (q_up (q_up (q_up h2 55 g0 (nI q0)) 44 23 (nI (sdf s.1 (2 ^ q0)))) 56 g0 (nI r)) 44 23 (nI (sdf (sdf s.1 (2 ^ q0)) (2 ^ r)))) := (o1.trans (OnlyM.upC (by decide) (by decide))).trans (OnlyM.upF (by decide))
          refine ih (sdf (sdf s.1 (2 ^ q0)) (2 ^ r), upd s.2.1 g0 (nI q0), upd s.2.2 g0 (nI r)) _ (by have := cntF_upd hg6 a4 (show q0 < 4096 by omega); show cntF (upd s.2.1 g0 (nI q0)) ≤ d; omega) (MT.keep ⟨hp, hn, hp0, e6, e13, hk⟩ o2 (by decide) (by decide)) ⟨up_at _ _ _ _, sdf_le (n := 12) hfr, fun k hk6 => ?_, fun k hk6 => ?_⟩ (fun h3 t ho3 hM hD => kk h3 t (o2.trans ho3) hM (SgD.cons ⟨g0, q0, hl, rfl, Or.inr (Or.inl ⟨hx, r, hr, rfl, rfl⟩)⟩ hD))
          · rw [up_cell _ _ _ _ (by decide), up_cell _ _ _ _ (by decide)]; exact m55 _ k hk6
          · rw [up_cell _ _ _ _ (by decide), q_up_at]
            show upd _ g0 (nI r) k = upd s.2.2 g0 (nI r) k
            unfold upd
            split
            · rfl
            · exact m56 _ k hk6
        · have o2 : OnlyM [55, 56] [23, 24, 25] h (q_up (q_up (q_up (q_up h2 55 g0 (nI q0)) 44 23 (nI (sdf s.1 (2 ^ q0)))) 56 g0 (-1)) 44 23 (nI (sdf s.1 (2 ^ q0)))) := (o1.trans (OnlyM.upC (by decide) (by decide))).trans (OnlyM.upF (by decide))
          refine ih (sdf s.1 (2 ^ q0), upd s.2.1 g0 (nI q0), upd s.2.2 g0 (-1)) _ (by have := cntF_upd hg6 a4 (show q0 < 4096 by omega); show cntF (upd s.2.1 g0 (nI q0)) ≤ d; omega) (MT.keep ⟨hp, hn, hp0, e6, e13, hk⟩ o2 (by decide) (by decide)) ⟨up_at _ _ _ _, hfr, fun k hk6 => ?_, fun k hk6 => ?_⟩ (fun h3 t ho3 hM hD => kk h3 t (o2.trans ho3) hM (SgD.cons ⟨g0, q0, hl, rfl, Or.inr (Or.inr ⟨hx, hno, rfl, rfl⟩)⟩ hD))
          · rw [up_cell _ _ _ _ (by decide), up_cell _ _ _ _ (by decide)]; exact m55 _ k hk6
          · rw [up_cell _ _ _ _ (by decide), q_up_at]
            show upd _ g0 (-1) k = upd s.2.2 g0 (-1) k
            unfold upd
            split
            · rfl
            · exact m56 _ k hk6
theorem c_seat {p n W : Nat} {kd at_ : Nat → Nat} {s : Sg} (hW : W < 2 ^ 31) (hT : MT h p n kd at_) (hS : MS h s) (kk : ∀ (h2 : Hp) (t : Sg), OnlyM [55, 56] [23, 24, 25] h h2 → MS h2 t → SgD p n kd at_ W s t → KV h2) : FV g mX8_seat [.ref 44, .int (nI W)] h KV := eX8_seat (l_seat (g := g) hW _ s h (Nat.le_refl _) hT hS kk)
end Mt
