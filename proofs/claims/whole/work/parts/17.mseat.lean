/-! the reference's stop -/
theorem dst_on {p a b : Nat} (ha : a < p) (hb : b < p) : (b + p - a) % p = if a ≤ b then b - a else b + p - a := by
  by_cases h : a ≤ b
  · rw [if_pos h, show b + p - a = (b - a) + p by omega, Nat.add_mod_right, Nat.mod_eq_of_lt (by omega)]
  · rw [if_neg h, Nat.mod_eq_of_lt (by omega)]
theorem dst_le {p a b : Nat} (ha : a < p) (hb : b < p) : dst p a b ≤ p / 2 := by
  unfold dst
  rw [dst_on ha hb]
  split <;> split <;> omega
theorem ef_le {p : Nat} {kd at_ : Nat → Nat} {g q : Nat} (ha : at_ g < p) (hq : q < p) : ef p kd at_ g q ≤ p / 2 + 1 := by
  have := dst_le ha hq
  unfold ef
  omega
theorem i_sub_add (a b c : Int32) : a - b + c = a + c - b := by
  rw [Int32.sub_eq_add_neg, Int32.sub_eq_add_neg]; ac_rfl
/-- effort as the code has it -/
def eI (e : Nat) : Int32 := nI e - 1
theorem eI_toInt {e : Nat} (h : e < 2 ^ 31) : (eI e).toInt = (e : Int) - 1 := t_pred h
theorem eI_le {a b : Nat} (ha : a < 2 ^ 31) (hb : b < 2 ^ 31) : eI a ≤ eI b ↔ a ≤ b := by
  rw [i_le, eI_toInt ha, eI_toInt hb]; omega
section Ms
variable {g : QG} {h : Hp} {K : Int32 → Hp → Prop} {KV : Hp → Prop}
theorem c_far {p a b : Nat} (hp : p ≤ 12) (ha : a < p) (hb : b < p) (e : h 44 6 = nI p) (hK : K (nI (dst p a b)) h) : FI g mX8_far [.ref 44, .int (nI a), .int (nI b)] h K := by
  have h1 : nI b - nI a + nI p = nI (b + p - a) := by rw [i_sub_add, nI_add, pk_sub (by omega)]
  have hm : (b + p - a) % p < p := Nat.mod_lt _ (by omega)
  have h2 : nI (b + p - a) - nI (b + p - a) / nI p * nI p = nI ((b + p - a) % p) := pk_rem (by omega) (by omega) (by omega)
  have h3 : nI p - nI ((b + p - a) % p) = nI (p - (b + p - a) % p) := pk_sub (by omega)
  refine eX8_far (vX8_far_0 ?_)
  rw [e, h1, h2, h3]
  refine ⟨nI_ne0 (by omega) (by omega), ?_⟩
  unfold dst at hK
  rw [nI_leI (by omega) (by omega)]
  refine ⟨fun hc => ?_, fun hc => ?_⟩
  · rw [if_pos hc] at hK; exact hK
  · rw [if_neg hc] at hK; exact hK
theorem c_effort {p k b v : Nat} {at_ kd : Nat → Nat} (hp : p ≤ 12) (hk : k < 6) (ha : at_ k < p) (hb : b < p) (e : h 44 6 = nI p) (hv : kd k = v) (hv2 : v < 2 ^ 31) (ek : h 49 k = nI v) (hK : K (eI (ef p kd at_ k b)) h) : FI g mX8_effort [.ref 44, .int (nI k), .int (nI (at_ k)), .int (nI b)] h K := by
  refine eX8_effort (vX8_effort_0 (c_far hp ha hb e ⟨vp_in_nI hk (by decide), ?_⟩))
  rw [ix_nI (by omega), ek, show (1 : Int32) = nI 1 from rfl, nI_eq hv2 (by decide)]
  unfold eI ef at hK
  rw [hv] at hK
  refine ⟨fun hc => ?_, fun hc => ?_⟩
  · rw [if_neg hc, Nat.sub_zero, nI_pred] at hK
    rw [Int32.sub_zero]; exact hK
  · rw [if_pos hc, Nat.add_sub_cancel] at hK; exact hK
/-- what the reference holds at a stop -/
def MT (h : Hp) (p n : Nat) (kd at_ : Nat → Nat) : Prop := p ≤ 12 ∧ n ≤ 6 ∧ 0 < p ∧ h 44 6 = nI p ∧ h 44 13 = nI n ∧ ∀ k, k < n → h 49 k = nI (kd k) ∧ kd k ≤ 3 ∧ h 54 k = nI (at_ k) ∧ at_ k < p
def MS (h : Hp) (s : Sg) : Prop := h 44 23 = nI s.1 ∧ s.1 < 4096 ∧ (∀ k, k < 6 → h 55 k = s.2.1 k) ∧ (∀ k, k < 6 → h 56 k = s.2.2 k)
/-- the object's own fields but those of J, all cells but those of L -/
def OnlyM (L J : List Nat) (h h2 : Hp) : Prop := (∀ k, k ∉ L → k ≠ 44 → h2 k = h k) ∧ ∀ j, j ∉ J → h2 44 j = h 44 j
theorem OnlyM.rf {L J : List Nat} (h : Hp) : OnlyM L J h h := ⟨fun _ _ _ => rfl, fun _ _ => rfl⟩
theorem OnlyM.trans {L J : List Nat} {h h2 h3 : Hp} (a : OnlyM L J h h2) (b : OnlyM L J h2 h3) : OnlyM L J h h3 := ⟨fun k hk h4 => (b.1 k hk h4).trans (a.1 k hk h4), fun j hj => (b.2 j hj).trans (a.2 j hj)⟩
theorem OnlyM.weaken {L J L2 J2 : List Nat} {h h2 : Hp} (a : OnlyM L J h h2) (hs : ∀ k ∈ L, k ∈ L2) (hj : ∀ k ∈ J, k ∈ J2) : OnlyM L2 J2 h h2 := ⟨fun k hk h4 => a.1 k (fun z => hk (hs k z)) h4, fun j hk => a.2 j (fun z => hk (hj j z))⟩
theorem OnlyM.upF {L J : List Nat} {h : Hp} {j : Nat} {v : Int32} (hj : j ∈ J) : OnlyM L J h (q_up h 44 j v) := ⟨fun k _ h4 => q_up_ne h4, fun i hi => up_row h 44 j v (fun e => hi (e ▸ hj))⟩
theorem OnlyM.upC {L J : List Nat} {h : Hp} {k j : Nat} {v : Int32} (hk : k ∈ L) (h4 : k ≠ 44) : OnlyM L J h (q_up h k j v) := ⟨fun q hq _ => q_up_ne (fun e => hq (e ▸ hk)), fun i _ => by rw [q_up_ne (Ne.symm h4)]⟩
theorem MT.keep {h h2 : Hp} {p n : Nat} {kd at_ : Nat → Nat} {L J : List Nat} (a : MT h p n kd at_) (o : OnlyM L J h h2) (hL : 49 ∉ L ∧ 54 ∉ L) (hJ : 6 ∉ J ∧ 13 ∉ J) : MT h2 p n kd at_ := by
  obtain ⟨a1, a2, a3, a4, a5, a6⟩ := a
  refine ⟨a1, a2, a3, by rw [o.2 6 hJ.1]; exact a4, by rw [o.2 13 hJ.2]; exact a5, fun k hk => ?_⟩
  rw [o.1 49 hL.1 (by decide), o.1 54 hL.2 (by decide)]
  exact a6 k hk
/-- the scan's state: the least pair so far, of those ahead of (G, Q) -/
def Scn (A : Nat → Nat → Prop) (e : Nat → Nat → Nat) (G Q : Nat) (h : Hp) (a2 : Int32) : Prop :=
  (a2 = eI 100 ∧ ∀ g q, A g q → ¬ (g < G ∨ (g = G ∧ q < Q))) ∨
  ∃ g0 q0, A g0 q0 ∧ (g0 < G ∨ (g0 = G ∧ q0 < Q)) ∧ a2 = eI (e g0 q0) ∧ h 44 24 = nI g0 ∧ h 44 25 = nI q0 ∧ ∀ g q, A g q → (g < G ∨ (g = G ∧ q < Q)) → e g0 q0 < e g q ∨ (e g0 q0 = e g q ∧ (g0 < g ∨ (g0 = g ∧ q0 ≤ q)))
theorem Scn.next {A : Nat → Nat → Prop} {e : Nat → Nat → Nat} {G Q : Nat} {h h2 : Hp} {a2 : Int32} (s : Scn A e G Q h a2) (hn : ¬ A G Q) (e1 : h2 44 24 = h 44 24) (e2 : h2 44 25 = h 44 25) : Scn A e G (Q + 1) h2 a2 := by
  rcases s with ⟨h1, h3⟩ | ⟨g0, q0, b1, b2, b3, b4, b5, b6⟩
  · refine Or.inl ⟨h1, fun g q ha => ?_⟩
    have := h3 g q ha
    by_cases hh : g = G ∧ q = Q
    · rw [hh.1, hh.2] at ha; exact absurd ha hn
    · omega
  · refine Or.inr ⟨g0, q0, b1, by omega, b3, e1.trans b4, e2.trans b5, fun g q ha hh => ?_⟩
    by_cases hx : g = G ∧ q = Q
    · rw [hx.1, hx.2] at ha; exact absurd ha hn
    · exact b6 g q ha (by omega)
/-- a pair no better -/
theorem Scn.keep {A : Nat → Nat → Prop} {e : Nat → Nat → Nat} {G Q : Nat} {h h2 : Hp} {a2 : Int32} (s : Scn A e G Q h a2) (hA : A G Q) (he : e G Q < 100) (hb : ∀ g q, A g q → e g q < 100) (hle : a2 ≤ eI (e G Q)) (e1 : h2 44 24 = h 44 24) (e2 : h2 44 25 = h 44 25) : Scn A e G (Q + 1) h2 a2 := by
  rcases s with ⟨h1, h3⟩ | ⟨g0, q0, b1, b2, b3, b4, b5, b6⟩
  · rw [h1, eI_le (by decide) (by omega)] at hle
    omega
  · rw [b3, eI_le (by have := hb g0 q0 b1; omega) (by omega)] at hle
    refine Or.inr ⟨g0, q0, b1, by omega, b3, e1.trans b4, e2.trans b5, fun g q ha hh => ?_⟩
    by_cases hx : g = G ∧ q = Q
    · rw [hx.1, hx.2]; omega
    · exact b6 g q ha (by omega)
/-- a better pair -/
theorem Scn.better {A : Nat → Nat → Prop} {e : Nat → Nat → Nat} {G Q : Nat} {h h2 : Hp} {a2 : Int32} (s : Scn A e G Q h a2) (hA : A G Q) (he : e G Q < 100) (hb : ∀ g q, A g q → e g q < 100) (hle : ¬ a2 ≤ eI (e G Q)) (e1 : h2 44 24 = nI G) (e2 : h2 44 25 = nI Q) : Scn A e G (Q + 1) h2 (eI (e G Q)) := by
  refine Or.inr ⟨G, Q, hA, by omega, rfl, e1, e2, fun g q ha hh => ?_⟩
  rcases s with ⟨h1, h3⟩ | ⟨g0, q0, b1, b2, b3, b4, b5, b6⟩
  · have := h3 g q ha
    have : g = G ∧ q = Q := by omega
    rw [this.1, this.2]; omega
  · rw [b3, eI_le (by have := hb g0 q0 b1; omega) (by omega)] at hle
    by_cases hx : g = G ∧ q = Q
    · rw [hx.1, hx.2]; omega
    · have := b6 g q ha (by omega)
      omega
theorem Scn.row {A : Nat → Nat → Prop} {e : Nat → Nat → Nat} {G p : Nat} {h : Hp} {a2 : Int32} (s : Scn A e G p h a2) (hp : ∀ g q, A g q → q < p) : Scn A e (G + 1) 0 h a2 := by
  rcases s with ⟨h1, h3⟩ | ⟨g0, q0, b1, b2, b3, b4, b5, b6⟩
  · refine Or.inl ⟨h1, fun g q ha => ?_⟩
    have := h3 g q ha
    have := hp g q ha
    omega
  · refine Or.inr ⟨g0, q0, b1, by omega, b3, b4, b5, fun g q ha hh => b6 g q ha ?_⟩
    have := hp g q ha
    omega
end Ms
