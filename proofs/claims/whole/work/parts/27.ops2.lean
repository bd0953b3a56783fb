/-! write, guest -/
theorem i_byte (x : Int64) : ∃ b, b < 256 ∧ (x &&& 255).toInt32 = nI b := by
  refine ⟨x.toBitVec.toNat % 256, Nat.mod_lt _ (by decide), ?_⟩
  apply Int32.toBitVec_inj.mp
  apply BitVec.eq_of_toNat_eq
  rw [Int64.toBitVec_toInt32, pk_tn (by omega), Int64.toBitVec_and]
  have hm : (x.toBitVec &&& (255 : Int64).toBitVec).toNat = x.toBitVec.toNat % 256 := by
    rw [BitVec.toNat_and, show (255 : Int64).toBitVec.toNat = 2 ^ 8 - 1 by decide, Nat.and_two_pow_sub_one_eq_mod]
  rw [BitVec.signExtend_eq_setWidth_of_le _ (by decide), BitVec.toNat_setWidth, hm, Nat.mod_eq_of_lt (by omega)]
/-- byte i of a long, as the code has it -/
def byt (x : Int64) (i : Nat) : Int32 := ((x >>> ((8 * nI i).toInt64 &&& 63)) &&& 255).toInt32
section O2
variable {g : QG} {h : Hp} {K : Int32 → Hp → Prop}
theorem l_xwrite {a : Int64} {L N : Nat} {h0 : Hp} (hL : L + N ≤ 200) (hN : N ≤ 8) (kk : ∀ h2 : Hp, Only [7, 8] h0 h2 → (∀ j, j ≠ 1 → h2 7 j = h0 7 j) → h2 7 1 = nI (L + N) → (∀ i, i < L → h2 8 i = h0 8 i) → (∀ i, i < N → h2 8 (L + i) = byt a i) → K (nI (L + N)) h2) : ∀ (d i : Nat) (h : Hp), N - i = d → i ≤ N → Only [7, 8] h0 h → (∀ j, j ≠ 1 → h 7 j = h0 7 j) → h 7 1 = nI (L + i) → (∀ j, j < L → h 8 j = h0 8 j) → (∀ j, j < i → h 8 (L + j) = byt a j) → wX7_write_35 g K h a (nI N) (nI i) := by
  intro d
  induction d with
  | zero =>
    intro i h hd hi ho h7 e1 h8 hv
    have e : i = N := by omega
    subst e
    refine vX7_write_35 ⟨fun _ => ?_, fun hc => absurd (nI_le (Nat.le_refl _) (by omega)) hc⟩
    rw [e1]
    exact kk h ho h7 e1 h8 hv
  | succ d ih =>
    intro i h hd hi ho h7 e1 h8 hv
    refine vX7_write_35 ⟨fun hc => ?_, fun _ => ?_⟩
    · rw [nI_leI (by omega) (by omega)] at hc; omega
    · refine eX5_append (vX5_append_0 ⟨fun hc => ?_, fun _ => ?_⟩)
      · rw [e1, show (200 : Int32) = nI 200 from rfl, nI_leI (by decide) (by omega)] at hc; omega
      · rw [e1, ix_nI (by omega), nI_1, nI_1]
        refine ⟨vp_in_nI (by omega) (by decide), ih (i + 1) _ (by omega) (by omega) (ho.trans ((Only.up (by decide)).trans (Only.up (by decide)))) (fun j hj => ?_) (up_at _ _ _ _) (fun j hj => ?_) (fun j hj => ?_)⟩
        · rw [up_row _ _ _ _ hj, up_cell _ _ _ _ (by decide)]; exact h7 j hj
        · rw [up_cell _ _ _ _ (by decide), up_row _ _ _ _ (by omega)]; exact h8 j hj
        · rw [up_cell _ _ _ _ (by decide)]
          by_cases e : j = i
          · subst e; exact up_at _ _ _ _
          · rw [up_row _ _ _ _ (by omega)]; exact hv j (by omega)
theorem l_mwrite {a : Int64} {L N : Nat} {h0 : Hp} (hL : L + N ≤ 200) (hN : N ≤ 8) (kk : ∀ h2 : Hp, OnlyM [47] [3] h0 h2 → h2 44 3 = nI (L + N) → (∀ i, i < L → h2 47 i = h0 47 i) → (∀ i, i < N → h2 47 (L + i) = byt a i) → K (nI (L + N)) h2) : ∀ (d i : Nat) (h : Hp), N - i = d → i ≤ N → OnlyM [47] [3] h0 h → h 44 3 = nI (L + i) → (∀ j, j < L → h 47 j = h0 47 j) → (∀ j, j < i → h 47 (L + j) = byt a j) → wX8_write_33 g K h a (nI N) (nI i) := by
  intro d
  induction d with
  | zero =>
    intro i h hd hi ho e1 h8 hv
    have e : i = N := by omega
    subst e
    refine vX8_write_33 ⟨fun _ => ?_, fun hc => absurd (nI_le (Nat.le_refl _) (by omega)) hc⟩
    rw [e1]
    exact kk h ho e1 h8 hv
  | succ d ih =>
    intro i h hd hi ho e1 h8 hv
    refine vX8_write_33 ⟨fun hc => ?_, fun _ => ?_⟩
    · rw [nI_leI (by omega) (by omega)] at hc; omega
    · rw [e1, ix_nI (by omega), nI_1, nI_1]
      refine ⟨vp_in_nI (by omega) (by decide), ih (i + 1) _ (by omega) (by omega) (ho.trans ((OnlyM.upC (by decide) (by decide)).trans (OnlyM.upF (by decide)))) (up_at _ _ _ _) (fun j hj => ?_) (fun j hj => ?_)⟩
      · rw [up_cell _ _ _ _ (by decide), up_row _ _ _ _ (by omega)]; exact h8 j hj
      · rw [up_cell _ _ _ _ (by decide)]
        by_cases e : j = i
        · subst e; exact up_at _ _ _ _
        · rw [up_row _ _ _ _ (by omega)]; exact hv j (by omega)
theorem op_write {a : Int64} {b : Int32} (hS : Sim h) : FI g mX7_write [.ref 0, .long a, .int b] h (fun r h1 => FI g mX8_write [.ref 44, .long a, .int b] h1 (fun r2 h2 => r = r2 ∧ Sim h2)) := by
  obtain ⟨p, n, c, kd, sg, pc, wy, wt, hT, hX, hE, hK1, hK2, hN⟩ := (Sim.iff h).mp hS
  have hn := hT.1.2.2.1
  obtain ⟨L, hL, l1, l2, l3⟩ := hX
  have e1 : (1 : Int32).toInt = 1 := by decide
  have e8 : (8 : Int32).toInt = 8 := by decide
  have inM : ∀ (hh : Hp) (K2 : Int32 → Hp → Prop), K2 (bi (decide (1 ≤ b.toInt ∧ b.toInt ≤ 8))) hh → FI g mX8_in [.long b.toInt64, .long (1 : Int64), .long (8 : Int64)] hh K2 := fun hh K2 hk => c_inI (by decide) (by decide) hk
  refine eX7_write (vX7_write_0 ⟨fun hc => ?_, fun hc => ⟨fun hd => ⟨fun he => ?_, fun he => ?_⟩, fun hd => ?_⟩⟩)
  · rw [i_lt, e1] at hc
    exact eX8_write (vX8_write_0 (inM _ _ (br_b' (fun _ => ⟨rfl, hS⟩) (fun z => by have := of_decide_eq_true z; omega))))
  · rw [i_lt, e1] at hc
    rw [i_le, e8] at hd
    obtain ⟨N, hN8, rfl⟩ : ∃ N, N ≤ 8 ∧ b = nI N := ⟨b.toInt.toNat, by omega, by rw [i_eq, nI_toInt (by omega)]; omega⟩
    rw [l1, nI_add, show (200 : Int32) = nI 200 from rfl, nI_leI (by omega) (by decide)] at he
    refine l_xwrite (g := g) (a := a) (L := L) (N := N) (h0 := h) he hN8 (fun h2 o2 v7 w1 w2 w3 => ?_) N 0 h rfl (Nat.zero_le _) (Only.rf h) (fun _ _ => rfl) l1 (fun _ _ => rfl) (fun j hj => by omega)
    refine eX8_write (vX8_write_0 (inM _ _ (br_b' (fun z => ?_) (fun _ => ⟨fun _ => ?_, fun z => ?_⟩))))
    · have := of_decide_eq_false z; omega
    · refine l_mwrite (g := g) (a := a) (L := L) (N := N) (h0 := h2) he hN8 (fun h3 o3 u1 u2 u3 => ⟨rfl, ?_⟩) N 0 h2 rfl (Nat.zero_le _) (OnlyM.rf h2) (by rw [o2 44 (by decide)]; exact l2) (fun _ _ => rfl) (fun j hj => by omega)
      have ex : ∀ k, k ∉ [7, 8, 47, 44] → h3 k = h k := fun k hk => by
        simp only [List.mem_cons, List.not_mem_nil, or_false, not_or] at hk
        rw [o3.1 k (by simp; exact hk.2.2.1) hk.2.2.2, o2 k (by simp; exact ⟨hk.1, hk.2.1⟩)]
      have e44 : ∀ j, j ≠ 3 → h3 44 j = h 44 j := fun j hj => by rw [o3.2 j (by simpa using hj), o2 44 (by decide)]
      refine (Sim.iff _).mpr ⟨p, n, c, kd, sg, pc, wy, wt, hT.cg ⟨ex 1 (by decide), ex 2 (by decide), ex 3 (by decide), ex 4 (by decide), ex 5 (by decide), ex 6 (by decide)⟩ ⟨ex 49 (by decide), ex 50 (by decide), ex 51 (by decide), ex 52 (by decide), ex 53 (by decide)⟩ ⟨e44 6 (by decide), e44 7 (by decide), e44 13 (by decide)⟩, ⟨L + N, he, ?_, u1, fun i hi => ?_⟩, hE.cg hn (by rw [ex 26 (by decide)]; exact ⟨rfl, rfl, rfl⟩) ⟨ex 27 (by decide), ex 28 (by decide), ex 29 (by decide), ex 30 (by decide)⟩ (fun j _ => by rw [ex 45 (by decide)]), hK1.cg hn (ex 31 (by decide)) (by rw [ex 46 (by decide)]) ⟨ex 32 (by decide), ex 33 (by decide), ex 34 (by decide), ex 35 (by decide)⟩ (fun j _ => by rw [ex 45 (by decide)]), hK2.cg hn (ex 36 (by decide)) (by rw [ex 46 (by decide)]) ⟨ex 37 (by decide), ex 38 (by decide), ex 39 (by decide), ex 40 (by decide)⟩ (fun j _ => by rw [ex 45 (by decide)]), hN.cg ⟨by rw [ex 41 (by decide)], e44 30 (by decide), ex 42 (by decide), ex 43 (by decide), ex 60 (by decide)⟩⟩
      · rw [o3.1 7 (by decide) (by decide)]; exact w1
      · rw [o3.1 8 (by decide) (by decide)]
        by_cases hi2 : i < L
        · obtain ⟨v, v1, v2, v3⟩ := l3 i hi2
          exact ⟨v, v1, by rw [w2 i hi2]; exact v2, by rw [u2 i hi2, o2 47 (by decide)]; exact v3⟩
        · obtain ⟨v, v1, v2⟩ := i_byte (a >>> ((8 * nI (i - L)).toInt64 &&& 63))
          have q1 := w3 (i - L) (by omega)
          have q2 := u3 (i - L) (by omega)
          rw [show L + (i - L) = i by omega] at q1 q2
          exact ⟨v, v1, q1.trans v2, q2.trans v2⟩
    · exfalso
      apply z
      rw [o2 44 (by decide), l2, nI_add]
      exact nI_le he (by decide)
  · rw [i_lt, e1] at hc
    rw [i_le, e8] at hd
    obtain ⟨N, hN8, rfl⟩ : ∃ N, N ≤ 8 ∧ b = nI N := ⟨b.toInt.toNat, by omega, by rw [i_eq, nI_toInt (by omega)]; omega⟩
    refine eX8_write (vX8_write_0 (inM _ _ (br_b' (fun z => ?_) (fun _ => ⟨fun z => ?_, fun z => ⟨rfl, hS⟩⟩))))
    · have := of_decide_eq_false z; omega
    · rw [l2] at z
      rw [l1] at he
      exact absurd z he
  · rw [i_le, e8] at hd
    exact eX8_write (vX8_write_0 (inM _ _ (br_b' (fun _ => ⟨rfl, hS⟩) (fun z => by have := of_decide_eq_true z; omega))))
theorem op_guest {a b : Int32} (hS : Sim h) : FI g mX7_guest [.ref 0, .int a, .int b] h (fun r h1 => FI g mX8_guest [.ref 44, .int a, .int b] h1 (fun r2 h2 => r = r2 ∧ Sim h2)) := by
  obtain ⟨p, n, c, kd, sg, pc, wy, wt, hT, hX, hE, hK1, hK2, hN⟩ := (Sim.iff h).mp hS
  have hn := hT.1.2.2.1
  obtain ⟨-, -, -, hq, -⟩ := hE
  refine eX7_guest (vX7_guest_0 (c_hasGuest (by omega) hT.2.1.2.2 (br_b' (fun e1 => ?_) (fun e1 => ?_))))
  · exact eX8_guest (vX8_guest_0 (c_isGuest (by omega) hT.2.2.1.2.2 (br_b' (fun _ => ⟨rfl, hS⟩) (fun z => by rw [e1] at z; cases z))))
  · obtain ⟨k, hk, rfl⟩ := blw_of e1
    have hi : vp_in (nI k) 6 := vp_in_nI (by omega) (by decide)
    have i3 : (3 : Int32) + nI k = nI (3 + k) := nI_add 3 k
    have i9 : (9 : Int32) + nI k = nI (9 + k) := nI_add 9 k
    have i21 : (21 : Int32) + nI k = nI (21 + k) := nI_add 21 k
    obtain ⟨⟨av, -, a1, a2⟩, a3, a4⟩ := hq k hk
    obtain ⟨t1, t2, t3, t4, t5⟩ := hT.2.2.2 k hk
    have go : ∀ {r : Int32}, (∀ K2 : Int32 → Hp → Prop, ((b = 0 → K2 (h 49 k) h) ∧ (¬ b = 0 → (b = 1 → K2 (h 45 (0 + 3 + k)) h) ∧ (¬ b = 1 → (b = 2 → K2 (h 51 k) h) ∧ (¬ b = 2 → (b = 3 → K2 (h 52 k) h) ∧ (¬ b = 3 → (b = 4 → K2 (h 53 k) h) ∧ (¬ b = 4 → (b = 5 → K2 (h 45 (0 + 9 + k)) h) ∧ (¬ b = 5 → (b = 6 → K2 (h 45 (0 + 21 + k)) h) ∧ (¬ b = 6 → K2 (-3) h)))))))) → K2 r h) → FI g mX8_guest [.ref 44, .int (nI k), .int b] h (fun r2 h2 => r = r2 ∧ Sim h2) := by
      intro r hr
      refine eX8_guest (vX8_guest_0 (c_isGuest (n := n) (by omega) hT.2.2.1.2.2 (br_b' (fun z => by rw [e1] at z; cases z) (fun _ => ?_))))
      rw [i3, i9, i21, ix_nI (by omega), ix_nI (by omega), ix_nI (by omega), ix_nI (by omega)]
      have v3 : vp_in (nI (3 + k)) 81 := vp_in_nI (by omega) (by decide)
      have v9 : vp_in (nI (9 + k)) 81 := vp_in_nI (by omega) (by decide)
      have v21 : vp_in (nI (21 + k)) 81 := vp_in_nI (by omega) (by decide)
      rw [show 3 + k = 0 + 3 + k by omega, show 9 + k = 0 + 9 + k by omega, show 21 + k = 0 + 21 + k by omega] at *
      have key : ∀ z : Int32, (∀ K2 : Int32 → Hp → Prop, K2 z h → K2 r h) → r = z := fun z hz => hz (fun x _ => x = z) rfl
      refine ⟨fun q0 => ⟨hi, key _ (fun K2 hk2 => hr K2 ⟨fun _ => hk2, fun z => absurd q0 z⟩), hS⟩, fun n0 => ⟨fun q1 => ⟨v3, key _ (fun K2 hk2 => hr K2 ⟨fun z => absurd z n0, fun _ => ⟨fun _ => hk2, fun z => absurd q1 z⟩⟩), hS⟩, fun n1 => ⟨fun q2 => ⟨hi, key _ (fun K2 hk2 => hr K2 ⟨fun z => absurd z n0, fun _ => ⟨fun z => absurd z n1, fun _ => ⟨fun _ => hk2, fun z => absurd q2 z⟩⟩⟩), hS⟩, fun n2 => ⟨fun q3 => ⟨hi, key _ (fun K2 hk2 => hr K2 ⟨fun z => absurd z n0, fun _ => ⟨fun z => absurd z n1, fun _ => ⟨fun z => absurd z n2, fun _ => ⟨fun _ => hk2, fun z => absurd q3 z⟩⟩⟩⟩), hS⟩, fun n3 => ⟨fun q4 => ⟨hi, key _ (fun K2 hk2 => hr K2 ⟨fun z => absurd z n0, fun _ => ⟨fun z => absurd z n1, fun _ => ⟨fun z => absurd z n2, fun _ => ⟨fun z => absurd z n3, fun _ => ⟨fun _ => hk2, fun z => absurd q4 z⟩⟩⟩⟩⟩), hS⟩, fun n4 => ⟨fun q5 => ⟨v9, key _ (fun K2 hk2 => hr K2 ⟨fun z => absurd z n0, fun _ => ⟨fun z => absurd z n1, fun _ => ⟨fun z => absurd z n2, fun _ => ⟨fun z => absurd z n3, fun _ => ⟨fun z => absurd z n4, fun _ => ⟨fun _ => hk2, fun z => absurd q5 z⟩⟩⟩⟩⟩⟩), hS⟩, fun n5 => ⟨fun q6 => ⟨v21, key _ (fun K2 hk2 => hr K2 ⟨fun z => absurd z n0, fun _ => ⟨fun z => absurd z n1, fun _ => ⟨fun z => absurd z n2, fun _ => ⟨fun z => absurd z n3, fun _ => ⟨fun z => absurd z n4, fun _ => ⟨fun z => absurd z n5, fun _ => ⟨fun _ => hk2, fun z => absurd q6 z⟩⟩⟩⟩⟩⟩⟩), hS⟩, fun n6 => ⟨key _ (fun K2 hk2 => hr K2 ⟨fun z => absurd z n0, fun _ => ⟨fun z => absurd z n1, fun _ => ⟨fun z => absurd z n2, fun _ => ⟨fun z => absurd z n3, fun _ => ⟨fun z => absurd z n4, fun _ => ⟨fun z => absurd z n5, fun _ => ⟨fun z => absurd z n6, fun _ => hk2⟩⟩⟩⟩⟩⟩⟩), hS⟩⟩⟩⟩⟩⟩⟩⟩
    rw [ix_nI (by omega)]
    refine ⟨fun q0 => ⟨hi, go (fun K2 hk2 => ?_)⟩, fun n0 => ⟨fun q1 => ⟨hi, go (fun K2 hk2 => ?_)⟩, fun n1 => ⟨fun q2 => ⟨hi, go (fun K2 hk2 => ?_)⟩, fun n2 => ⟨fun q3 => ⟨hi, go (fun K2 hk2 => ?_)⟩, fun n3 => ⟨fun q4 => ⟨hi, go (fun K2 hk2 => ?_)⟩, fun n4 => ⟨fun q5 => ⟨hi, go (fun K2 hk2 => ?_)⟩, fun n5 => ⟨fun q6 => ⟨hi, go (fun K2 hk2 => ?_)⟩, fun n6 => go (fun K2 hk2 => ?_)⟩⟩⟩⟩⟩⟩⟩
    · rw [t1.1, ← t1.2.1]; exact hk2.1 q0
    · rw [a1, ← a2]; exact (hk2.2 n0).1 q1
    · rw [t3.1, ← t3.2.1]; exact ((hk2.2 n0).2 n1).1 q2
    · rw [t4.1, ← t4.2.1]; exact (((hk2.2 n0).2 n1).2 n2).1 q3
    · rw [t5.1, ← t5.2.1]; exact ((((hk2.2 n0).2 n1).2 n2).2 n3).1 q4
    · rw [show h 28 k = _ from a3]; exact (((((hk2.2 n0).2 n1).2 n2).2 n3).2 n4).1 q5
    · rw [show h 30 k = _ from a4]; exact ((((((hk2.2 n0).2 n1).2 n2).2 n3).2 n4).2 n5).1 q6
    · exact ((((((hk2.2 n0).2 n1).2 n2).2 n3).2 n4).2 n5).2 n6
end O2
