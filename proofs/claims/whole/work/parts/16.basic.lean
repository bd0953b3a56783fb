/-! contracts of the small methods -/
def bi (b : Bool) : Int32 := if b = true then 1 else 0
theorem bi_bool (b : Bool) : q_bool (bi b) := by unfold q_bool; cases b <;> decide
theorem bi0 {b : Bool} : bi b = 0 ↔ b = false := by cases b <;> decide
theorem bi1 {b : Bool} : bi b = 1 ↔ b = true := by cases b <;> decide
theorem bin0 {b : Bool} : ¬ bi b = 0 ↔ b = true := by cases b <;> decide
/-- a branch on what a test answered -/
theorem br_b {b : Bool} {A B : Prop} (f : b = false → A) (t : b = true → B) : (bi b = 0 → A) ∧ (¬ bi b = 0 → B) := ⟨fun h => f (bi0.mp h), fun h => t (bin0.mp h)⟩
theorem br_b' {b : Bool} {A B : Prop} (f : b = false → A) (t : b = true → B) : (¬ bi b = 0 → B) ∧ (bi b = 0 → A) := ⟨fun h => t (bin0.mp h), fun h => f (bi0.mp h)⟩
theorem i_lt (x y : Int32) : x < y ↔ x.toInt < y.toInt := Int32.lt_iff_toInt_lt
theorem i_le (x y : Int32) : x ≤ y ↔ x.toInt ≤ y.toInt := Int32.le_iff_toInt_le
theorem i_eq (x y : Int32) : x = y ↔ x.toInt = y.toInt := Int32.toInt_inj.symm
theorem i_rng (x : Int32) : -2147483648 ≤ x.toInt ∧ x.toInt ≤ 2147483647 := by
  have h1 := Int32.le_toInt x
  have h2 := Int32.toInt_lt x
  constructor
  · exact h1
  · omega
section Bas
variable {g : QG} {h : Hp} {K : Int32 → Hp → Prop}
theorem c_holds {S k : Nat} (hS : S < 2 ^ 31) (hk : k < 32) (hK : K (bi (S.testBit k)) h) : FI g mX7_holds [.int (nI S), .int (nI k)] h K := by
  refine eX7_holds (vX7_holds_0 ⟨fun hc => ?_, fun hc => ?_⟩)
  · rw [a_bit1 hS hk, Bool.not_eq_true] at hc
    rw [hc] at hK; exact hK
  · rw [a_bit1 hS hk] at hc
    rw [hc] at hK; exact hK
theorem c_has {S k : Nat} (hS : S < 2 ^ 31) (hk : k < 32) (hK : K (bi (S.testBit k)) h) : FI g mX8_has [.int (nI S), .int (nI k)] h K := by
  refine eX8_has (vX8_has_0 ⟨fun hc => ?_, fun hc => ?_⟩)
  · rw [a_bit1 hS hk, Bool.not_eq_true] at hc
    rw [hc] at hK; exact hK
  · rw [a_bit1 hS hk] at hc
    rw [hc] at hK; exact hK
theorem c_in {a b c : Int64} (hK : K (bi (decide (b.toInt ≤ a.toInt ∧ a.toInt ≤ c.toInt))) h) : FI g mX8_in [.long a, .long b, .long c] h K := by
  refine eX8_in (vX8_in_0 ⟨fun hc => ?_, fun hc => ⟨fun hd => ?_, fun hd => ?_⟩⟩)
  · rw [lg_cmp_lt, Int64.lt_iff_toInt_lt] at hc
    rw [decide_eq_false (by omega)] at hK; exact hK
  · rw [lg_cmp_gt, Int64.lt_iff_toInt_lt] at hd
    rw [decide_eq_false (by omega)] at hK; exact hK
  · rw [lg_cmp_lt, Int64.lt_iff_toInt_lt] at hc
    rw [lg_cmp_gt, Int64.lt_iff_toInt_lt] at hd
    rw [decide_eq_true (by omega)] at hK; exact hK
theorem c_inI {a : Int32} {b c : Int64} {lo hi : Int} (e1 : b.toInt = lo) (e2 : c.toInt = hi) (hK : K (bi (decide (lo ≤ a.toInt ∧ a.toInt ≤ hi))) h) : FI g mX8_in [.long a.toInt64, .long b, .long c] h K := by
  refine c_in ?_
  rw [Int32.toInt_toInt64, e1, e2]
  exact hK
theorem c_isMinute {a : Int32} (hK : K (bi (decide (0 ≤ a.toInt ∧ a.toInt ≤ 99))) h) : FI g mX7_isMinute [.int a] h K := by
  have e0 : (0 : Int32).toInt = 0 := by decide
  have e9 : (99 : Int32).toInt = 99 := by decide
  refine eX7_isMinute (vX7_isMinute_0 ⟨fun hc => ?_, fun hc => ⟨fun hd => ?_, fun hd => ?_⟩⟩) <;> simp only [i_lt, e0, e9] at hc
  · rw [decide_eq_false (by omega)] at hK; exact hK
  · simp only [i_lt, e9] at hd
    rw [decide_eq_false (by omega)] at hK; exact hK
  · simp only [i_lt, e9] at hd
    rw [decide_eq_true (by omega)] at hK; exact hK
def spn (a b : Int32) : Bool := decide (0 ≤ a.toInt ∧ a.toInt ≤ b.toInt ∧ b.toInt ≤ 99)
theorem c_areMinutes {a b : Int32} (hK : K (bi (spn a b)) h) : FI g mX7_areMinutes [.int a, .int b] h K := by
  unfold spn at hK
  refine eX7_areMinutes (vX7_areMinutes_0 (c_isMinute (br_b (fun e1 => ?_) (fun e1 => c_isMinute (br_b (fun e2 => ?_) (fun e2 => ⟨fun hc => ?_, fun hc => ?_⟩))))))
  · have e1 := of_decide_eq_false e1
    rw [decide_eq_false (by omega)] at hK; exact hK
  · have e2 := of_decide_eq_false e2
    rw [decide_eq_false (by omega)] at hK; exact hK
  · rw [i_lt] at hc
    rw [decide_eq_false (by omega)] at hK; exact hK
  · rw [i_lt] at hc
    have e1 := of_decide_eq_true e1
    have e2 := of_decide_eq_true e2
    rw [decide_eq_true (by omega)] at hK; exact hK
theorem c_isTime {a : Int32} (hK : K (bi (decide (0 ≤ a.toInt ∧ a.toInt ≤ 99))) h) : FI g mX8_isTime [.int a] h K := eX8_isTime (vX8_isTime_0 (c_inI (by decide) (by decide) ⟨bi_bool _, hK⟩))
theorem c_isSpan {a b : Int32} (hK : K (bi (spn a b)) h) : FI g mX8_isSpan [.int a, .int b] h K := by
  unfold spn at hK
  refine eX8_isSpan (vX8_isSpan_0 (c_isTime (br_b (fun e1 => ?_) (fun e1 => c_isTime (br_b (fun e2 => ?_) (fun e2 => ⟨fun hc => ?_, fun hc => ?_⟩))))))
  · have e1 := of_decide_eq_false e1
    rw [decide_eq_false (by omega)] at hK; exact hK
  · have e2 := of_decide_eq_false e2
    rw [decide_eq_false (by omega)] at hK; exact hK
  · rw [i_lt] at hc
    rw [decide_eq_false (by omega)] at hK; exact hK
  · rw [i_lt] at hc
    have e1 := of_decide_eq_true e1
    have e2 := of_decide_eq_true e2
    rw [decide_eq_true (by omega)] at hK; exact hK
def eth (a : Int32) : Bool := decide (0 ≤ a.toInt ∧ a.toInt ≤ 1)
theorem c_isEither {a : Int32} (hK : K (bi (eth a)) h) : FI g mX7_isEither [.int a] h K := by
  have e0 : (0 : Int32).toInt = 0 := by decide
  have e9 : (1 : Int32).toInt = 1 := by decide
  unfold eth at hK
  refine eX7_isEither (vX7_isEither_0 ⟨fun hc => ?_, fun hc => ⟨fun hd => ?_, fun hd => ?_⟩⟩) <;> simp only [i_eq, e0, e9] at hc
  · rw [decide_eq_true (by omega)] at hK; exact hK
  · simp only [i_eq, e9] at hd
    rw [decide_eq_false (by omega)] at hK; exact hK
  · simp only [i_eq, e9] at hd
    rw [decide_eq_true (by omega)] at hK; exact hK
/-- a number below n -/
def blw (n : Nat) (a : Int32) : Bool := decide (0 ≤ a.toInt ∧ a.toInt < n)
theorem c_hasPlace1 {a : Int32} {p : Nat} (hp : p < 2 ^ 31) (e : h 1 0 = nI p) (hK : K (bi (blw p a)) h) : FI g mX6_hasPlace [.ref 1, .int a] h K := by
  have e0 : (0 : Int32).toInt = 0 := by decide
  unfold blw at hK
  refine eX6_hasPlace_r1 (vX6_hasPlace_r1_0 ⟨fun hc => ?_, fun hc => ⟨fun hd => ?_, fun hd => ?_⟩⟩) <;> simp only [i_lt, e0] at hc
  · rw [decide_eq_false (by omega)] at hK; exact hK
  · rw [e, i_le, nI_toInt hp] at hd
    rw [decide_eq_false (by omega)] at hK; exact hK
  · rw [e, i_le, nI_toInt hp] at hd
    rw [decide_eq_true (by omega)] at hK; exact hK
theorem c_hasPlace9 {a : Int32} {p : Nat} (hp : p < 2 ^ 31) (e : h 9 0 = nI p) (hK : K (bi (blw p a)) h) : FI g mX6_hasPlace [.ref 9, .int a] h K := by
  have e0 : (0 : Int32).toInt = 0 := by decide
  unfold blw at hK
  refine eX6_hasPlace_r9 (vX6_hasPlace_r9_0 ⟨fun hc => ?_, fun hc => ⟨fun hd => ?_, fun hd => ?_⟩⟩) <;> simp only [i_lt, e0] at hc
  · rw [decide_eq_false (by omega)] at hK; exact hK
  · rw [e, i_le, nI_toInt hp] at hd
    rw [decide_eq_false (by omega)] at hK; exact hK
  · rw [e, i_le, nI_toInt hp] at hd
    rw [decide_eq_true (by omega)] at hK; exact hK
theorem c_hasGuest {a : Int32} {n : Nat} (hp : n < 2 ^ 31) (e : h 1 2 = nI n) (hK : K (bi (blw n a)) h) : FI g mX6_hasGuest [.ref 1, .int a] h K := by
  have e0 : (0 : Int32).toInt = 0 := by decide
  unfold blw at hK
  refine eX6_hasGuest (vX6_hasGuest_0 ⟨fun hc => ?_, fun hc => ⟨fun hd => ?_, fun hd => ?_⟩⟩) <;> simp only [i_lt, e0] at hc
  · rw [decide_eq_false (by omega)] at hK; exact hK
  · rw [e, i_le, nI_toInt hp] at hd
    rw [decide_eq_false (by omega)] at hK; exact hK
  · rw [e, i_le, nI_toInt hp] at hd
    rw [decide_eq_true (by omega)] at hK; exact hK
theorem t_pred {n : Nat} (h : n < 2 ^ 31) : (nI n - 1).toInt = (n : Int) - 1 := by
  cases n with
  | zero => decide
  | succ n => rw [nI_pred, nI_toInt (by omega)]; omega
theorem c_isPlace {a : Int32} {p : Nat} (hp : p < 2 ^ 31) (e : h 44 6 = nI p) (hK : K (bi (blw p a)) h) : FI g mX8_isPlace [.ref 44, .int a] h K := by
  refine eX8_isPlace (vX8_isPlace_0 (c_inI (lo := 0) (hi := (p : Int) - 1) (by decide) (by rw [e, Int32.toInt_toInt64, t_pred hp]) ⟨bi_bool _, ?_⟩))
  unfold blw at hK
  rw [show decide (0 ≤ a.toInt ∧ a.toInt ≤ (p : Int) - 1) = decide (0 ≤ a.toInt ∧ a.toInt < p) from decide_eq_decide.mpr (by omega)]
  exact hK
theorem c_isGuest {a : Int32} {n : Nat} (hp : n < 2 ^ 31) (e : h 44 13 = nI n) (hK : K (bi (blw n a)) h) : FI g mX8_isGuest [.ref 44, .int a] h K := by
  refine eX8_isGuest (vX8_isGuest_0 (c_inI (lo := 0) (hi := (n : Int) - 1) (by decide) (by rw [e, Int32.toInt_toInt64, t_pred hp]) ⟨bi_bool _, ?_⟩))
  unfold blw at hK
  rw [show decide (0 ≤ a.toInt ∧ a.toInt ≤ (n : Int) - 1) = decide (0 ≤ a.toInt ∧ a.toInt < n) from decide_eq_decide.mpr (by omega)]
  exact hK
theorem blw_of {n : Nat} {a : Int32} (h : blw n a = true) : ∃ k, k < n ∧ a = nI k := by
  unfold blw at h
  have h := of_decide_eq_true h
  refine ⟨a.toInt.toNat, by omega, ?_⟩
  rw [i_eq, nI_toInt (by have := i_rng a; omega)]
  omega
theorem c_everyone {n : Nat} (hn : n ≤ 6) (e : h 1 2 = nI n) (hK : K (nI (2 ^ n - 1)) h) : FI g mX6_everyone [.ref 1] h K := by
  refine eX6_everyone (vX6_everyone_0 ?_)
  rw [e, a_all (by omega)]
  exact hK
theorem c_everybody {n : Nat} (hn : n ≤ 6) (e : h 44 13 = nI n) (hK : K (nI (2 ^ n - 1)) h) : FI g mX8_everybody [.ref 44] h K := by
  refine eX8_everybody (vX8_everybody_0 ?_)
  rw [e, a_all (by omega)]
  exact hK
theorem c_farthest {p : Nat} (hp : p < 2 ^ 31) (e : h 1 0 = nI p) (hK : K (nI (p / 2)) h) : FI g mX6_farthest [.ref 1] h K := by
  refine eX6_farthest (vX6_farthest_0 ?_)
  rw [e, show (2 : Int32) = nI 2 from rfl, pk_div hp (by decide) (by decide)]
  exact hK
theorem ix_nI {k : Nat} (hk : k < 2 ^ 31) : (nI k).toNatClampNeg = k := nI_clamp hk
theorem c_ease {k v : Nat} (hk : k < 6) (hv : v < 2 ^ 31) (e : h 2 k = nI v) (hK : K (nI (if v = 1 then 1 else 0)) h) : FI g mX6_ease [.ref 1, .int (nI k)] h K := by
  refine eX6_ease (vX6_ease_0 ⟨vp_in_nI hk (by decide), ?_⟩)
  rw [ix_nI (by omega), e]
  refine ⟨fun hc => ?_, fun hc => ?_⟩
  · rw [show (1 : Int32) = nI 1 from rfl, nI_eq hv (by decide)] at hc
    rw [if_neg hc] at hK; exact hK
  · rw [show (1 : Int32) = nI 1 from rfl, nI_eq hv (by decide)] at hc
    rw [if_pos hc] at hK; exact hK
end Bas
