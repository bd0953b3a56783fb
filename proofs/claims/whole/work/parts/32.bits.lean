/-! how many bits -/
def pcN : Nat → Nat → Nat
  | 0, _ => 0
  | k + 1, S => pcN k S + S / 2 ^ k % 2
abbrev pcn (S : Nat) : Nat := pcN 12 S
def bc1 (x : Int32) : Int32 := x - (((x.toUInt32 >>> ((1 : Int32).toUInt32 &&& Int32.toUInt32 31)).toInt32) &&& (1431655765 : Int32))
def bc2 (x : Int32) : Int32 := (x &&& (858993459 : Int32)) + (((x.toUInt32 >>> ((2 : Int32).toUInt32 &&& Int32.toUInt32 31)).toInt32) &&& (858993459 : Int32))
def bc3 (x : Int32) : Int32 := (x + ((x.toUInt32 >>> ((4 : Int32).toUInt32 &&& Int32.toUInt32 31)).toInt32)) &&& (252645135 : Int32)
def bc4 (x : Int32) : Int32 := x + ((x.toUInt32 >>> ((8 : Int32).toUInt32 &&& Int32.toUInt32 31)).toInt32)
def bc5 (x : Int32) : Int32 := (x + ((x.toUInt32 >>> ((16 : Int32).toUInt32 &&& Int32.toUInt32 31)).toInt32)) &&& (63 : Int32)
def bcx (x : Int32) : Int32 := bc5 (bc4 (bc3 (bc2 (bc1 x))))
set_option maxRecDepth 20000 in
theorem bcx_ok0 : ∀ a, a < 64 → ∀ b, b < 64 → bcx (nI (64 * a + b)) = nI (pcn (64 * a + b)) := by decide +kernel
theorem bcx_ok {S : Nat} (h : S < 4096) : bcx (nI S) = nI (pcn S) := by
  have := bcx_ok0 (S / 64) (by omega) (S % 64) (Nat.mod_lt _ (by decide))
  rw [Nat.div_add_mod] at this
  exact this
theorem pcN_le (S : Nat) : ∀ k, pcN k S ≤ k
  | 0 => Nat.le_refl _
  | k + 1 => by
    have := pcN_le S k
    have h2 : S / 2 ^ k % 2 < 2 := Nat.mod_lt _ (by decide)
    unfold pcN
    omega
theorem pcN_pos (S : Nat) : ∀ k j, j < k → S.testBit j = true → 0 < pcN k S
  | 0, j, hj, _ => by omega
  | k + 1, j, hj, hb => by
    unfold pcN
    by_cases e : j = k
    · subst e
      rw [a_tb] at hb
      omega
    · have := pcN_pos S k j (by omega) hb
      omega
theorem pcN_0 (S : Nat) : ∀ k, pcN k S = 0 → ∀ j, j < k → S.testBit j = false := fun k h j hj => by
  cases hb : S.testBit j with
  | false => rfl
  | true => have := pcN_pos S k j hj hb; omega
section Bt
variable {g : QG} {h : Hp} {K : Int32 → Hp → Prop}
theorem c_bitCount {S : Nat} (hS : S < 4096) (hK : K (nI (pcn S)) h) : FI g mJ6_bitCount_0f7a4 [.int (nI S)] h K := by
  refine eJ6_bitCount_0f7a4 (vJ6_bitCount_0f7a4_0 ?_)
  rw [← bcx_ok hS] at hK
  exact hK
theorem l_bits {S : Nat} (hS : S < 4096) (hK : K (nI (pcn S)) h) : ∀ (d i : Nat), 12 - i = d → i ≤ 12 → wX8_bits_4 g K h (nI S) (nI (pcN i S)) (nI i) := by
  intro d
  induction d with
  | zero =>
    intro i hd hi
    have e : i = 12 := by omega
    subst e
    exact vX8_bits_4 ⟨fun _ => hK, fun hc => absurd (nI_le (a := 12) (Nat.le_refl _) (by decide)) hc⟩
  | succ d ih =>
    intro i hd hi
    refine vX8_bits_4 ⟨fun hc => ?_, fun _ => ?_⟩
    · rw [show (12 : Int32) = nI 12 from rfl, nI_leI (by decide) (by omega)] at hc; omega
    · rw [a_bit (by omega) (by omega), nI_add, nI_1]
      exact ih (i + 1) (by omega) (by omega)
theorem c_bits {S : Nat} (hS : S < 4096) (hK : K (nI (pcn S)) h) : FI g mX8_bits [.int (nI S)] h K := eX8_bits (vX8_bits_0 (l_bits (g := g) hS hK 12 0 rfl (by decide)))
end Bt
