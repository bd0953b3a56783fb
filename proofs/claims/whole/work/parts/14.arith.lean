/-! numbers and sets of bits -/
theorem a_sh {k : Nat} (hk : k < 32) : ((nI k &&& 31).toBitVec.smod 32).toNat = k := by
  rw [pk_andN (m := 31) (by omega) 5 (by decide), Nat.mod_eq_of_lt (by omega : k < 2 ^ 5)]
  have : ∀ j : Fin 32, ((nI j.1).toBitVec.smod 32).toNat = j.1 := by decide
  exact this ⟨k, hk⟩
theorem a_shr {n k : Nat} (hn : n < 2 ^ 31) (hk : k < 32) : nI n >>> (nI k &&& 31) = nI (n / 2 ^ k) := pk_shrN hn _ k (a_sh hk)
theorem a_bit {n k : Nat} (hn : n < 2 ^ 31) (hk : k < 32) : (nI n >>> (nI k &&& 31)) &&& 1 = nI (n / 2 ^ k % 2) := by
  rw [a_shr hn hk, pk_andN (m := 1) (Nat.lt_of_le_of_lt (Nat.div_le_self _ _) (by omega)) 1 (by decide)]
theorem a_tb (n k : Nat) : n.testBit k = true ↔ n / 2 ^ k % 2 = 1 := by
  rw [Nat.testBit_eq_decide_div_mod_eq]; simp
theorem a_bit1 {n k : Nat} (hn : n < 2 ^ 31) (hk : k < 32) : ((nI n >>> (nI k &&& 31)) &&& 1 = 1) ↔ n.testBit k = true := by
  rw [a_bit hn hk, a_tb]
  have : n / 2 ^ k % 2 < 2 := Nat.mod_lt _ (by decide)
  rw [show (1 : Int32) = nI 1 from rfl, nI_eq (by omega) (by decide)]
theorem a_bitv {n k : Nat} (hn : n < 2 ^ 31) (hk : k < 32) : (nI n >>> (nI k &&& 31)) &&& 1 = if n.testBit k = true then 1 else 0 := by
  rw [a_bit hn hk]
  by_cases h : n.testBit k = true
  · rw [if_pos h, (a_tb n k).mp h]; rfl
  · rw [if_neg h]
    rcases Nat.mod_two_eq_zero_or_one (n / 2 ^ k) with h2 | h2
    · rw [h2]; rfl
    · exact absurd ((a_tb n k).mpr h2) h
theorem a_shl1 {k : Nat} (hk : k < 31) : (1 : Int32) <<< (nI k &&& 31) = nI (2 ^ k) := by
  have h2 : 2 ^ k ≤ 2 ^ 30 := Nat.pow_le_pow_right (by decide) (by omega)
  rw [show (1 : Int32) = nI 1 from rfl, pk_shlN (n := 1) _ k (a_sh (by omega)) (by omega), Nat.one_mul]
theorem a_and {a b : Nat} (ha : a < 2 ^ 32) (hb : b < 2 ^ 32) : nI a &&& nI b = nI (a &&& b) := by
  apply Int32.toBitVec_inj.mp
  apply BitVec.eq_of_toNat_eq
  rw [Int32.toBitVec_and, BitVec.toNat_and, pk_tn ha, pk_tn hb, pk_tn (Nat.lt_of_le_of_lt Nat.and_le_left ha)]
theorem a_or {a b : Nat} (ha : a < 2 ^ 32) (hb : b < 2 ^ 32) : nI a ||| nI b = nI (a ||| b) := by
  apply Int32.toBitVec_inj.mp
  apply BitVec.eq_of_toNat_eq
  rw [Int32.toBitVec_or, BitVec.toNat_or, pk_tn ha, pk_tn hb, pk_tn (Nat.or_lt_two_pow ha hb)]
theorem a_xor {a b : Nat} (ha : a < 2 ^ 32) (hb : b < 2 ^ 32) : nI a ^^^ nI b = nI (a ^^^ b) := by
  apply Int32.toBitVec_inj.mp
  apply BitVec.eq_of_toNat_eq
  rw [Int32.toBitVec_xor, BitVec.toNat_xor, pk_tn ha, pk_tn hb, pk_tn (Nat.xor_lt_two_pow ha hb)]
/-- a without b -/
def sdf (a b : Nat) : Nat := a ^^^ (a &&& b)
theorem sdf_tb (a b k : Nat) : (sdf a b).testBit k = (a.testBit k && !b.testBit k) := by
  unfold sdf
  rw [Nat.testBit_xor, Nat.testBit_and]
  cases a.testBit k <;> cases b.testBit k <;> rfl
theorem sdf_le {a b n : Nat} (h : a < 2 ^ n) : sdf a b < 2 ^ n := Nat.xor_lt_two_pow h (Nat.lt_of_le_of_lt Nat.and_le_left h)
theorem a_sdf {a b : Nat} (ha : a < 2 ^ 32) (hb : b < 2 ^ 32) : nI a &&& (nI b ^^^ (-1)) = nI (sdf a b) := by
  have h1 : nI (sdf a b) = nI a ^^^ (nI a &&& nI b) := by
    rw [a_and ha hb, a_xor ha (Nat.lt_of_le_of_lt Nat.and_le_left ha)]; rfl
  rw [h1]
  apply Int32.toBitVec_inj.mp
  apply BitVec.eq_of_getLsbD_eq
  intro i hi
  have hm : (-1 : Int32).toBitVec = BitVec.allOnes 32 := by decide
  rw [Int32.toBitVec_and, Int32.toBitVec_xor, Int32.toBitVec_xor, Int32.toBitVec_and, hm]
  simp only [BitVec.getLsbD_and, BitVec.getLsbD_xor, BitVec.getLsbD_allOnes, hi, decide_true]
  cases (nI a).toBitVec.getLsbD i <;> cases (nI b).toBitVec.getLsbD i <;> rfl
theorem a_all {n : Nat} (hn : n < 31) : (1 : Int32) <<< (nI n &&& 31) - 1 = nI (2 ^ n - 1) := by
  rw [a_shl1 hn, show (1 : Int32) = nI 1 from rfl, pk_sub (Nat.one_le_two_pow)]
theorem a_all_tb (n k : Nat) : (2 ^ n - 1).testBit k = decide (k < n) := Nat.testBit_two_pow_sub_one n k
theorem a_lt {n k : Nat} (hk : k ≤ 12) (h : n < 2 ^ k) : n < 4096 := Nat.lt_of_lt_of_le h (Nat.pow_le_pow_right (by decide) hk)
theorem a_ge_tb {n k j : Nat} (h : n < 2 ^ k) (hj : k ≤ j) : n.testBit j = false := Nat.testBit_lt_two_pow (Nat.lt_of_lt_of_le h (Nat.pow_le_pow_right (by decide) hj))
theorem a_eq_tb {a b n : Nat} (ha : a < 2 ^ n) (hb : b < 2 ^ n) (h : ∀ k, k < n → a.testBit k = b.testBit k) : a = b := by
  apply Nat.eq_of_testBit_eq
  intro i
  rcases Nat.lt_or_ge i n with hi | hi
  · exact h i hi
  · rw [a_ge_tb ha hi, a_ge_tb hb hi]
theorem a_m1 : ∀ n : Nat, n < 2 ^ 31 → ¬ nI n = -1 := fun n h e => by
  have := congrArg Int32.toInt e
  rw [nI_toInt h] at this
  have h2 : (-1 : Int32).toInt = -1 := by decide
  omega
/-- both branches come to one place with one value or the other -/
theorem br_v {c : Prop} [Decidable c] {α : Type} {P : α → Prop} {x y : α} (h : P (if c then x else y)) : (c → P x) ∧ (¬ c → P y) := ⟨fun hc => by rw [if_pos hc] at h; exact h, fun hc => by rw [if_neg hc] at h; exact h⟩
theorem br_v' {c : Prop} [Decidable c] {α : Type} {P : α → Prop} {x y : α} (h : P (if c then y else x)) : (¬ c → P x) ∧ (c → P y) := ⟨fun hc => by rw [if_neg hc] at h; exact h, fun hc => by rw [if_pos hc] at h; exact h⟩
/-- what a call leaves as it was: all cells but those of L -/
def Only (L : List Nat) (h h2 : Hp) : Prop := ∀ k, k ∉ L → h2 k = h k
theorem Only.rf {L : List Nat} (h : Hp) : Only L h h := fun _ _ => rfl
theorem Only.trans {L : List Nat} {h h2 h3 : Hp} (a : Only L h h2) (b : Only L h2 h3) : Only L h h3 := fun k hk => (b k hk).trans (a k hk)
theorem Only.weaken {L L2 : List Nat} {h h2 : Hp} (a : Only L h h2) (hs : ∀ k ∈ L, k ∈ L2) : Only L2 h h2 := fun k hk => a k (fun z => hk (hs k z))
theorem Only.up {L : List Nat} {h : Hp} {k j : Nat} {v : Int32} (hk : k ∈ L) : Only L h (q_up h k j v) := fun q hq => q_up_ne (fun e => hq (e ▸ hk))
theorem Only.upA {L : List Nat} {h : Hp} {k : Nat} {f : Nat → Int32} (hk : k ∈ L) : Only L h (q_upA h k f) := fun q hq => q_upA_ne (fun e => hq (e ▸ hk))
theorem up_at (h : Hp) (k j : Nat) (v : Int32) : q_up h k j v k j = v := by simp [q_up, upd]
theorem up_row (h : Hp) (k j : Nat) (v : Int32) {i : Nat} (e : i ≠ j) : q_up h k j v k i = h k i := by simp [q_up, upd, e]
theorem up_cell (h : Hp) (k j : Nat) (v : Int32) {q : Nat} (e : q ≠ k) : q_up h k j v q = h q := q_up_ne e
