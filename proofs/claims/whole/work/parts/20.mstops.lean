/-! the reference's faint, stops -/
def pset (P : Nat → Bool) : Nat → Nat
  | 0 => 0
  | n + 1 => pset P n ||| (if P n = true then 2 ^ n else 0)
theorem pset_tb (P : Nat → Bool) : ∀ n g, (pset P n).testBit g = (decide (g < n) && P g)
  | 0, g => by simp [pset]
  | n + 1, g => by
    rw [pset, Nat.testBit_or, pset_tb P n g]
    by_cases e : g = n
    · subst e
      by_cases hk : P g = true <;> simp [hk]
    · have hz : (if P n = true then 2 ^ n else 0).testBit g = false := by
        split
        · exact Nat.testBit_two_pow_of_ne (Ne.symm e)
        · exact Nat.zero_testBit g
      rw [hz, Bool.or_false]
      by_cases h2 : g < n
      · simp [h2, Nat.lt_succ_of_lt h2]
      · simp [h2, show ¬ g < n + 1 by omega]
theorem pset_lt (P : Nat → Bool) : ∀ n, pset P n < 2 ^ n
  | 0 => by simp [pset]
  | n + 1 => by
    have := pset_lt P n
    have h2 : (if P n = true then 2 ^ n else 0) < 2 ^ (n + 1) := by split <;> (rw [Nat.pow_succ]; have := Nat.one_le_two_pow (n := n); omega)
    exact Nat.or_lt_two_pow (by rw [Nat.pow_succ]; omega) h2
theorem i_or0 (a : Int32) : a ||| 0 = a := by
  apply Int32.toBitVec_inj.mp
  rw [Int32.toBitVec_or, show (0 : Int32).toBitVec = 0#32 from rfl, BitVec.or_zero]
def MK (h : Hp) (n : Nat) (kd : Nat → Nat) : Prop := n ≤ 6 ∧ h 44 13 = nI n ∧ ∀ k, k < n → h 49 k = nI (kd k) ∧ kd k ≤ 3
theorem MT.mk {h : Hp} {p n : Nat} {kd at_ : Nat → Nat} (a : MT h p n kd at_) : MK h n kd := ⟨a.2.1, a.2.2.2.2.1, fun k hk => ⟨(a.2.2.2.2.2 k hk).1, (a.2.2.2.2.2 k hk).2.1⟩⟩
section Mp
variable {g : QG} {h : Hp} {K : Int32 → Hp → Prop} {KV : Hp → Prop}
theorem l_faint {n : Nat} {kd : Nat → Nat} (hM : MK h n kd) (hK : K (nI (fset kd 2 n)) h) : ∀ (d i : Nat), n - i = d → i ≤ n → wX8_faint_4 g K h (nI (fset kd 2 i)) (nI i) := by
  intro d
  induction d with
  | zero =>
    intro i hd hi
    have e : i = n := by omega
    subst e
    exact vX8_faint_4 ⟨fun _ => hK, fun hc => absurd (by rw [hM.2.1]; exact nI_le (Nat.le_refl _) (by have := hM.1; omega)) hc⟩
  | succ d ih =>
    intro i hd hi
    have h6 := hM.1
    have hk := hM.2.2 i (by omega)
    have hf := p64 (show i ≤ 6 by omega) (fset_lt kd 2 i)
    refine vX8_faint_4 ⟨fun hc => ?_, fun _ => ⟨vp_in_nI (by omega) (by decide), ?_⟩⟩
    · rw [hM.2.1, nI_leI (by omega) (by omega)] at hc
      omega
    · rw [ix_nI (by omega), hk.1, show (2 : Int32) = nI 2 from rfl, nI_eq (by omega) (by decide), nI_1]
      have := ih (i + 1) (by omega) (by omega)
      rw [fset] at this
      refine ⟨fun hc => ?_, fun hc => ?_⟩
      · rw [if_neg hc, Nat.or_zero] at this
        rw [i_or0]; exact this
      · rw [if_pos hc] at this
        rw [a_shl1 (by omega), a_or (by omega) (Nat.lt_of_lt_of_le (p_lt (n := 6) (by omega)) (by decide))]; exact this
theorem c_faint {n : Nat} {kd : Nat → Nat} (hM : MK h n kd) (hK : K (nI (fset kd 2 n)) h) : FI g mX8_faint [.ref 44] h K := eX8_faint (vX8_faint_0 (l_faint (g := g) hM hK n 0 rfl (Nat.zero_le _)))
theorem l_st60 {p n A : Nat} {kd at_ : Nat → Nat} (hT : MT h p n kd at_) (hA : A < 64) (hK : K (nI (pset (fun k => (sdf A (fset kd 2 n)).testBit k && decide (h 55 k = -1)) n)) h) : ∀ (d i : Nat), n - i = d → i ≤ n → wX8_stops_60 g K h (nI A) (nI (pset (fun k => (sdf A (fset kd 2 n)).testBit k && decide (h 55 k = -1)) i)) (nI i) := by
  have hn := hT.2.1
  have e13 := hT.2.2.2.2.1
  have hF := p64 hn (fset_lt kd 2 n)
  intro d
  induction d with
  | zero =>
    intro i hd hi
    have e : i = n := by omega
    subst e
    exact vX8_stops_60 ⟨fun _ => hK, fun hc => absurd (by rw [e13]; exact nI_le (Nat.le_refl _) (by omega)) hc⟩
  | succ d ih =>
    intro i hd hi
    have hf := p64 (show i ≤ 6 by omega) (pset_lt (fun k => (sdf A (fset kd 2 n)).testBit k && decide (h 55 k = -1)) i)
    have nx := ih (i + 1) (by omega) (by omega)
    rw [pset] at nx
    refine vX8_stops_60 ⟨fun hc => ?_, fun _ => ?_⟩
    · rw [e13, nI_leI (by omega) (by omega)] at hc
      omega
    · refine c_faint hT.mk ?_
      rw [a_sdf (by omega) (by omega)]
      refine c_has (Nat.lt_of_lt_of_le (sdf_le (n := 6) hA) (by decide)) (by omega) (br_b (fun e1 => ?_) (fun e1 => ⟨vp_in_nI (by omega) (by decide), ?_⟩))
      · rw [e1, Bool.false_and, if_neg (by decide), Nat.or_zero] at nx
        rw [i_or0, nI_1]; exact nx
      · rw [ix_nI (by omega)]
        rw [e1, Bool.true_and] at nx
        refine ⟨fun hc => ?_, fun hc => ?_⟩
        · rw [decide_eq_false hc, if_neg (by decide), Nat.or_zero] at nx
          rw [i_or0, nI_1]; exact nx
        · rw [decide_eq_true hc, if_pos rfl] at nx
          rw [a_shl1 (by omega), a_or (by omega) (Nat.lt_of_lt_of_le (p_lt (n := 6) (by omega)) (by decide)), nI_1]; exact nx
theorem l_st7 {A : Nat} (kk : ∀ h2 : Hp, OnlyM [55, 56] [] h h2 → (∀ k, k < 6 → h2 55 k = -1) → (∀ k, k < 6 → h2 56 k = -1) → wX8_stops_7 g K h2 (nI A) (nI 6)) : ∀ (d i : Nat) (h2 : Hp), 6 - i = d → i ≤ 6 → OnlyM [55, 56] [] h h2 → (∀ k, k < i → h2 55 k = -1) → (∀ k, k < i → h2 56 k = -1) → wX8_stops_7 g K h2 (nI A) (nI i) := by
  intro d
  induction d with
  | zero =>
    intro i h2 hd hi ho h5 h6
    have e : i = 6 := by omega
    subst e
    exact kk h2 ho h5 h6
  | succ d ih =>
    intro i h2 hd hi ho h5 h6
    refine vX8_stops_7 ⟨fun hc => ?_, fun _ => ⟨vp_in_nI (by omega) (by decide), vp_in_nI (by omega) (by decide), ?_⟩⟩
    · rw [show (6 : Int32) = nI 6 from rfl, nI_leI (by decide) (by omega)] at hc
      omega
    · rw [ix_nI (by omega), nI_1]
      refine ih (i + 1) _ (by omega) (by omega) ((ho.trans (OnlyM.upC (by decide) (by decide))).trans (OnlyM.upC (by decide) (by decide))) (fun k hk => ?_) (fun k hk => ?_)
      · rw [up_cell _ _ _ _ (by decide), q_up_at]
        unfold upd
        split
        · rfl
        · exact h5 k (by omega)
      · rw [q_up_at]
        unfold upd
        split
        · rfl
        · rw [up_cell _ _ _ _ (by decide)]; exact h6 k (by omega)
theorem c_stops {p n A c : Nat} {kd at_ : Nat → Nat} (hT : MT h p n kd at_) (hA : A < 64) (hc : c < 4096)
    (kk : ∀ (h2 : Hp) (S : Nat) (t1 t2 : Sg), OnlyM [55, 56] [23, 24, 25] h h2 → SgD p n kd at_ (sdf A (fset kd 2 n)) (sg0 c) t1 → SgD p n kd at_ (A &&& fset kd 2 n) t1 t2 → MS h2 t2 → Std n (sdf A (fset kd 2 n)) t2.2.1 S → S < 64 → K (nI S) h2) : FI g mX8_stops [.ref 44, .int (nI c), .int (nI A)] h K := by
  have hn := hT.2.1
  have hF := p64 hn (fset_lt kd 2 n)
  refine eX8_stops (vX8_stops_0 (l_st7 (g := g) (A := A) (h := q_up h 44 23 (nI c)) ?_ 6 0 _ rfl (Nat.zero_le _) (OnlyM.rf _) (fun k hk => by omega) (fun k hk => by omega)))
  intro h2 ho h5 h6
  have o1 : OnlyM [55, 56] [23, 24, 25] h h2 := (OnlyM.upF (by decide)).trans (ho.weaken (by decide) (by decide))
  have hT2 := hT.keep o1 (by decide) (by decide)
  have hS2 : MS h2 (sg0 c) := ⟨by rw [ho.2 23 (by decide)]; exact up_at _ _ _ _, hc, h5, h6⟩
  refine vX8_stops_7 ⟨fun _ => ?_, fun hx => absurd (by decide) hx⟩
  refine c_faint hT2.mk ?_
  rw [a_sdf (by omega) (by omega)]
  refine c_seat (Nat.lt_of_lt_of_le (sdf_le (n := 6) hA) (by decide)) hT2 hS2 (fun h3 t1 o3 hS3 hD1 => ?_)
  have hT3 := hT2.keep o3 (by decide) (by decide)
  refine c_faint hT3.mk ?_
  rw [a_and (by omega) (by omega)]
  refine c_seat (Nat.lt_of_le_of_lt Nat.and_le_left (by omega)) hT3 hS3 (fun h4 t2 o4 hS4 hD2 => ?_)
  have hT4 := hT3.keep o4 (by decide) (by decide)
  refine l_st60 (g := g) hT4 hA ?_ n 0 rfl (Nat.zero_le _)
  refine kk h4 _ t1 t2 ((o1.trans o3).trans o4) hD1 hD2 hS4 (fun k => ?_) (p64 hn (pset_lt _ n))
  rw [pset_tb]
  by_cases hk : k < n
  · rw [hS4.2.2.1 k (by omega)]
  · simp [hk]
end Mp
