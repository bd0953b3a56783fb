/-! laid -/
def mxf (f : Nat → Nat) : Nat → Nat
  | 0 => 0
  | i + 1 => if mxf f i < f i then f i else mxf f i
def mnf (x : Nat) (f : Nat → Nat) : Nat → Nat
  | 0 => x
  | i + 1 => if f i < mnf x f i then f i else mnf x f i
theorem mxf_le {f : Nat → Nat} {b : Nat} (h : ∀ j, f j ≤ b) : ∀ i, mxf f i ≤ b
  | 0 => Nat.zero_le _
  | i + 1 => by
    have := mxf_le h i
    have := h i
    unfold mxf
    split <;> omega
theorem mnf_le (x : Nat) (f : Nat → Nat) : ∀ i, mnf x f i ≤ x
  | 0 => Nat.le_refl _
  | i + 1 => by
    have := mnf_le x f i
    unfold mnf
    split <;> omega
theorem mn_mx (x : Nat) (f : Nat → Nat) : ∀ i, 0 < i → mnf x f i ≤ mxf f i
  | 0, h => by omega
  | i + 1, _ => by
    unfold mnf mxf
    by_cases e : i = 0
    · subst e
      show (if f 0 < x then f 0 else x) ≤ if 0 < f 0 then f 0 else 0
      split <;> split <;> omega
    · have := mn_mx x f i (by omega)
      split <;> split <;> omega
theorem mnf_two {f : Nat → Nat} (h : ∀ j, f j ≤ 100) : ∀ i, mnf 100 f i = if mnf 999 f i < 100 then mnf 999 f i else 100
  | 0 => rfl
  | i + 1 => by
    have h1 := mnf_two h i
    have h2 := h i
    unfold mnf
    generalize mnf 100 f i = A at h1 ⊢
    generalize mnf 999 f i = B at h1 ⊢
    split at h1 <;> (repeat' split) <;> omega
theorem mnf_eq {f : Nat → Nat} (h : ∀ j, f j ≤ 100) {i : Nat} (hi : 0 < i) : mnf 100 f i = mnf 999 f i := by
  have h1 := mnf_two h i
  obtain ⟨k, rfl⟩ : ∃ k, i = k + 1 := ⟨i - 1, by omega⟩
  have h2 : mnf 999 f (k + 1) ≤ 100 := by
    have := h k
    unfold mnf
    split <;> omega
  split at h1 <;> omega
def spr (f : Nat → Nat) (n : Nat) : Nat := if n = 0 then 0 else mxf f n - mnf 100 f n
theorem spr_le {f : Nat → Nat} (h : ∀ j, f j ≤ 100) (n : Nat) : spr f n ≤ 100 := by
  have := mxf_le h n
  unfold spr
  split <;> omega
theorem BG.zero {G : Nat → Prop} {T : Nat → Nat} {i N v : Nat} (hN : i ≤ N) (h0 : T v = 0) (a : BG G T i (some v)) : BG G T N (some v) := by
  refine ⟨by have := a.1; omega, a.2.1, fun w hw gw => ?_⟩
  rcases Nat.lt_or_ge w i with h | h
  · exact a.2.2 w h gw
  · have := a.1; omega
theorem pcn_ex : ∀ k, k ≤ 12 → pcn (2 ^ k - 1) = k := by decide
/-- how often j stands when the chairs are s -/
noncomputable abbrev tC (p n : Nat) (kd sg pc wy : Nat → Nat) (a m s : Nat) : Nat → Nat := fun j => tal (sT p n kd sg pc wy s (2 ^ n - 1)) j a m
def oX : Option Nat → (Nat → Nat) → Nat → Int32
  | none, _, x => nI x
  | some v, T, _ => nI (T v)
section Ld
variable {g : QG} {h : Hp} {K : Int32 → Hp → Prop} {KV : Hp → Prop}
theorem l_spread {n : Nat} {f : Nat → Nat} (hn : n ≤ 6) (e : h 1 2 = nI n) (hv : ∀ j, j < n → h 23 j = nI (f j)) (hf : ∀ j, f j ≤ 100) (hK : K (nI (spr f n)) h) : ∀ (d i : Nat), n - i = d → i ≤ n → wX2_spread_7 g K h (nI (mxf f i)) (nI (mnf 100 f i)) (nI i) := by
  intro d
  induction d with
  | zero =>
    intro i hd hi
    have ei : i = n := by omega
    subst ei
    refine vX2_spread_7 ⟨fun _ => ?_, fun z => absurd (by rw [e]; exact nI_le (Nat.le_refl _) (by omega)) z⟩
    rw [e, nI_eq0 (by omega)]
    unfold spr at hK
    refine ⟨fun z => ?_, fun z => ?_⟩
    · rw [if_neg z] at hK
      rw [pk_sub (mn_mx 100 f i (by omega))]
      exact hK
    · rw [if_pos z] at hK; exact hK
  | succ d ih =>
    intro i hd hi
    have h1 := mxf_le hf i
    have h2 := mnf_le 100 f i
    have h3 := hf i
    refine vX2_spread_7 ⟨fun z => ?_, fun _ => ⟨vp_in_nI (by omega) (by decide), ?_⟩⟩
    · rw [e, nI_leI (by omega) (by omega)] at z; omega
    · rw [ix_nI (by omega), hv i (by omega)]
      refine c_max (by omega) (by omega) ⟨vp_in_nI (by omega) (by decide), ?_⟩
      rw [hv i (by omega)]
      refine c_min (by omega) (by omega) ?_
      rw [nI_1]
      exact ih (i + 1) (by omega) (by omega)
theorem c_spread {n : Nat} {f : Nat → Nat} (hn : n ≤ 6) (e : h 1 2 = nI n) (hv : ∀ j, j < n → h 23 j = nI (f j)) (hf : ∀ j, f j ≤ 100) (hK : K (nI (spr f n)) h) : FI g mX2_spread [.ref 20] h K := eX2_spread (vX2_spread_0 (l_spread (g := g) hn e hv hf hK n 0 rfl (Nat.zero_le _)))
theorem l_xlaid {p n c a b k : Nat} {kd sg pc wy wt : Nat → Nat} {h0 : Hp} (hab : a ≤ b) (hb : b ≤ 99) (hk : k ≤ 12) (hT0 : TdR h0 p n c kd sg pc wy wt)
    (kk : ∀ (h2 : Hp) (o : Option Nat), Only scX h0 h2 → BG (fun s => pcn s = k) (fun s => spr (tC p n kd sg pc wy a (b + 1 - a) s) n) (2 ^ p) o → h2 24 3 = oX o (fun s => spr (tC p n kd sg pc wy a (b + 1 - a) s) n) 101 → h2 24 4 = oI o → KV h2) : ∀ (d i : Nat) (h : Hp) (o : Option Nat), 2 ^ p - i = d → i ≤ 2 ^ p → Only scX h0 h → XW h n pc wy → h 20 5 = nI (2 ^ n - 1) → BG (fun s => pcn s = k) (fun s => spr (tC p n kd sg pc wy a (b + 1 - a) s) n) i o → h 24 3 = oX o (fun s => spr (tC p n kd sg pc wy a (b + 1 - a) s) n) 101 → h 24 4 = oI o → wX1_findLaid_21 g KV h (nI k) (nI a) (nI b) (nI i) := by
  have hn := hT0.1.2.2.1
  have hp := hT0.1.2.1
  have h2p : 2 ^ p ≤ 4096 := Nat.pow_le_pow_right (by decide) hp
  have hf : ∀ s j, tC p n kd sg pc wy a (b + 1 - a) s j ≤ 100 := fun s j => by
    have := tal_le (sT p n kd sg pc wy s (2 ^ n - 1)) j a (b + 1 - a)
    show tal _ _ _ _ ≤ 100
    omega
  intro d
  induction d with
  | zero =>
    intro i h o hd hi ho hW e5 hb' e3 e4
    have ei : i = 2 ^ p := by omega
    subst ei
    exact vX1_findLaid_21 ⟨fun _ => kk h o ho hb' e3 e4, fun z => absurd (by rw [ho 1 (by decide), hT0.2.1.1, a_shl1 (by omega)]; exact nI_le (Nat.le_refl _) (by omega)) z⟩
  | succ d ih =>
    intro i h o hd hi ho hW e5 hb' e3 e4
    have hT := hT0.xo ho (fun _ z => z)
    refine vX1_findLaid_21 ⟨fun z => ?_, fun _ => ⟨fun z => ?_, fun _ => c_bitCount (by omega) ?_⟩⟩
    · rw [hT.2.1.1, a_shl1 (by omega), nI_leI (by omega) (by omega)] at z; omega
    · cases o with
      | none =>
        rw [e3] at z
        exact absurd z (show ¬ (nI 101 ≤ (0 : Int32)) by decide)
      | some v =>
        have hs := spr_le (hf v) n
        rw [e3] at z
        replace z : nI (spr (tC p n kd sg pc wy a (b + 1 - a) v) n) ≤ nI 0 := z
        rw [nI_leI (by omega) (by decide)] at z
        exact kk h (some v) ho (hb'.zero hi (by omega)) e3 e4
    · have hpi : pcn i ≤ 12 := pcN_le i 12
      rw [nI_eq (by omega) (by omega)]
      refine ⟨fun z => ?_, fun z => ?_⟩
      · rw [nI_1]
        exact ih (i + 1) h o (by omega) (by omega) ho hW e5 (BG.no (G := fun s => pcn s = k) z hb') e3 e4
      · have o1 : Only scX h0 (q_up h 20 6 (nI i)) := ho.trans (Only.up (by decide))
        refine c_tally (c := i) hab hb hT0.all (by omega) (hT0.xo o1 (fun _ z => z)).xd hW e5 rfl (fun h2 o2 v2 => ?_)
        have o02 : Only scX h0 h2 := o1.trans (o2.weaken (by decide))
        have hT2 := hT0.xo o02 (fun _ z => z)
        have hW2 : XW h2 n pc wy := by
          unfold XW
          rw [o2 21 (by decide), o2 22 (by decide)]
          exact hW
        have e52 : h2 20 5 = nI (2 ^ n - 1) := by rw [o2 20 (by decide)]; exact e5
        have e24 : h2 24 = h 24 := by rw [o2 24 (by decide)]; rfl
        refine c_spread (f := tC p n kd sg pc wy a (b + 1 - a) i) hn hT2.2.1.2.2 v2 (hf i) ?_
        have hs := spr_le (hf i) n
        rw [e24, e3, nI_1]
        cases o with
        | none =>
          show (nI 101 ≤ _ → _) ∧ (¬ nI 101 ≤ _ → _)
          rw [nI_leI (by decide) (by omega)]
          refine ⟨fun y => by omega, fun _ => ?_⟩
          exact ih (i + 1) _ (some i) (by omega) (by omega) ((o02.trans (Only.up (by decide))).trans (Only.up (by decide))) hW2 e52 (BG.new (G := fun s => pcn s = k) z (fun v y => by cases y) hb') rfl rfl
        | some v =>
          have hsv := spr_le (hf v) n
          show (nI (spr (tC p n kd sg pc wy a (b + 1 - a) v) n) ≤ _ → _) ∧ (¬ nI (spr (tC p n kd sg pc wy a (b + 1 - a) v) n) ≤ _ → _)
          rw [nI_leI (by omega) (by omega)]
          refine ⟨fun y => ?_, fun y => ?_⟩
          · exact ih (i + 1) h2 (some v) (by omega) (by omega) o02 hW2 e52 (hb'.keep y) (by rw [e24]; exact e3) (by rw [e24]; exact e4)
          · exact ih (i + 1) _ (some i) (by omega) (by omega) ((o02.trans (Only.up (by decide))).trans (Only.up (by decide))) hW2 e52 (BG.new (G := fun s => pcn s = k) z (fun w e => by cases e; show spr _ n < spr _ n; omega) hb') rfl rfl
/-- the reference -/
theorem l_apart102 {n : Nat} {f : Nat → Nat} (hn : n ≤ 6) (e : h 44 13 = nI n) (hv : ∀ j, j < n → h 59 j = nI (f j)) (hf : ∀ j, f j ≤ 100) (hK : K (nI (spr f n)) h) : ∀ (d i : Nat), n - i = d → i ≤ n → wX8_apart_102 g K h (nI (mnf 999 f i)) (nI (mxf f i)) (nI i) := by
  intro d
  induction d with
  | zero =>
    intro i hd hi
    have ei : i = n := by omega
    subst ei
    refine vX8_apart_102 ⟨fun _ => ?_, fun z => absurd (by rw [e]; exact nI_le (Nat.le_refl _) (by omega)) z⟩
    rw [e, nI_eq0 (by omega)]
    unfold spr at hK
    refine ⟨fun z => ?_, fun z => ?_⟩
    · rw [if_neg z, mnf_eq hf (by omega)] at hK
      rw [pk_sub (mn_mx 999 f i (by omega))]
      exact hK
    · rw [if_pos z] at hK; exact hK
  | succ d ih =>
    intro i hd hi
    have h1 := mxf_le hf i
    have h2 := mnf_le 999 f i
    have h3 := hf i
    have nx := ih (i + 1) (by omega) (by omega)
    have s135 : ∀ s0 : Int32, s0 = nI (mnf 999 f (i + 1)) → wX8_apart_135 g K h (nI (mxf f i)) (nI i) s0 := by
      intro s0 hs0
      unfold mxf at nx
      refine vX8_apart_135 ?_
      rw [ix_nI (by omega), hv i (by omega), nI_leI (by omega) (by omega), nI_1, hs0]
      refine ⟨vp_in_nI (by omega) (by decide), fun z => ?_, fun z => ⟨vp_in_nI (by omega) (by decide), ?_⟩⟩
      · rw [if_neg (by omega)] at nx; exact nx
      · rw [if_pos (by omega)] at nx; exact nx
    refine vX8_apart_102 ⟨fun z => ?_, fun _ => ⟨vp_in_nI (by omega) (by decide), ?_⟩⟩
    · rw [e, nI_leI (by omega) (by omega)] at z; omega
    · rw [ix_nI (by omega), hv i (by omega), nI_leI (by omega) (by omega)]
      refine ⟨fun z => s135 _ ?_, fun z => ⟨vp_in_nI (by omega) (by decide), s135 _ ?_⟩⟩
      · show _ = nI (if f i < mnf 999 f i then f i else mnf 999 f i)
        rw [if_neg (by omega)]
      · show _ = nI (if f i < mnf 999 f i then f i else mnf 999 f i)
        rw [if_pos (by omega)]
theorem l_apart53 {n S : Nat} {a1 b t : Int32} {f : Nat → Nat} {h0 : Hp} (hn : n ≤ 6) (hS : S < 64) (e : h0 44 13 = nI n) (e0 : ∀ j, j < n → h0 59 j = nI (f j))
    (kk : ∀ h2 : Hp, OnlyM [59] [] h0 h2 → (∀ j, j < n → h2 59 j = nI (f j + bt S j)) → wX8_apart_27 g K h2 a1 b (t + 1)) : ∀ (d i : Nat) (h : Hp), n - i = d → i ≤ n → OnlyM [59] [] h0 h → (∀ j, j < i → h 59 j = nI (f j + bt S j)) → (∀ j, i ≤ j → h 59 j = h0 59 j) → wX8_apart_53 g K h a1 b t (nI S) (nI i) := by
  intro d
  induction d with
  | zero =>
    intro i h hd hi ho h1 h2
    have ei : i = n := by omega
    subst ei
    exact vX8_apart_53 ⟨fun _ => kk h ho h1, fun z => absurd (by rw [ho.2 13 (by decide), e]; exact nI_le (Nat.le_refl _) (by omega)) z⟩
  | succ d ih =>
    intro i h hd hi ho h1 h2
    refine vX8_apart_53 ⟨fun z => ?_, fun _ => ⟨vp_in_nI (by omega) (by decide), vp_in_nI (by omega) (by decide), ?_⟩⟩
    · rw [ho.2 13 (by decide), e, nI_leI (by omega) (by omega)] at z; omega
    · rw [ix_nI (by omega), a_bit (by omega) (by omega), h2 i (by omega), e0 i (by omega), nI_add, nI_1]
      refine ih (i + 1) _ (by omega) (by omega) (ho.trans (OnlyM.upC (by decide) (by decide))) (fun j hj => ?_) (fun j hj => by rw [up_row _ _ _ _ (by omega)]; exact h2 j (by omega))
      by_cases ej : j = i
      · subst ej; rw [up_at]
      · rw [up_row _ _ _ _ ej]; exact h1 j (by omega)
theorem l_apart27 {p n s a m : Nat} {kd sg pc wy : Nat → Nat} {h0 : Hp} (ham : a + m ≤ 100) (hm : 0 < m) (hM0 : MDt h0 p n kd sg pc wy) (hs : s < 4096)
    (kk : ∀ h2 : Hp, OnlyM [54, 55, 56, 59] [23, 24, 25] h0 h2 → K (nI (spr (tC p n kd sg pc wy a m s) n)) h2) : ∀ (d i : Nat) (h : Hp), m - i = d → i ≤ m → OnlyM [54, 55, 56, 59] [23, 24, 25] h0 h → (∀ j, j < n → h 59 j = nI (tC p n kd sg pc wy a i s j)) → wX8_apart_27 g K h (nI s) (nI (a + m - 1)) (nI (a + i)) := by
  have hn := hM0.2.1
  intro d
  induction d with
  | zero =>
    intro i h hd hi ho hv
    have ei : i = m := by omega
    subst ei
    have hf : ∀ j, tC p n kd sg pc wy a i s j ≤ 100 := fun j => by
      have := tal_le (sT p n kd sg pc wy s (2 ^ n - 1)) j a i
      show tal _ _ _ _ ≤ 100
      omega
    refine vX8_apart_27 ⟨fun _ => ?_, fun z => absurd (nI_lt (by omega) (by omega)) z⟩
    exact l_apart102 (g := g) (f := tC p n kd sg pc wy a i s) hn (by rw [ho.2 13 (by decide)]; exact hM0.2.2.2.2.1) hv hf (kk h ho) n 0 rfl (Nat.zero_le _)
  | succ d ih =>
    intro i h hd hi ho hv
    have hM : MDt h p n kd sg pc wy := hM0.keep ho (by decide) (by decide)
    refine vX8_apart_27 ⟨fun z => ?_, fun _ => ?_⟩
    · rw [nI_ltI (by omega) (by omega)] at z; omega
    · refine c_layAts (by omega) hM (fun h1 o1 v1 => ?_)
      have hM1 : MDt h1 p n kd sg pc wy := hM.keep o1 (by decide) (by decide)
      refine c_everybody hn hM1.2.2.2.2.1 ?_
      refine c_stopsS (hM1.mt v1) (by have := Nat.one_le_two_pow (n := n); omega) hs (fun h2 o2 h64 => ?_)
      have o12 : OnlyM [54, 55, 56, 59] [23, 24, 25] h h2 := (o1.weaken (by decide) (by decide)).trans (o2.weaken (by decide) (by decide))
      have o02 := ho.trans o12
      have e59 : h2 59 = h 59 := by rw [o2.1 59 (by decide) (by decide), o1.1 59 (by decide) (by decide)]
      refine l_apart53 (g := g) (f := tC p n kd sg pc wy a i s) hn h64 (by rw [o02.2 13 (by decide)]; exact hM0.2.2.2.2.1) (fun j hj => by rw [e59]; exact hv j hj) (fun h3 o3 v3 => ?_) n 0 h2 rfl (Nat.zero_le _) (OnlyM.rf _) (fun j hj => by omega) (fun _ _ => rfl)
      rw [nI_1]
      exact ih (i + 1) h3 (by omega) (by omega) (o02.trans (o3.weaken (by decide) (by decide))) v3
theorem l_apart3 {s a b : Int32} {h0 : Hp} (kk : ∀ h2 : Hp, OnlyM [59] [] h0 h2 → (∀ j, j < 6 → h2 59 j = 0) → wX8_apart_27 g K h2 s b a) : ∀ (d i : Nat) (h : Hp), 6 - i = d → i ≤ 6 → OnlyM [59] [] h0 h → (∀ j, j < i → h 59 j = 0) → wX8_apart_3 g K h s a b (nI i) := by
  intro d
  induction d with
  | zero =>
    intro i h hd hi ho hv
    have ei : i = 6 := by omega
    subst ei
    exact vX8_apart_3 ⟨fun _ => kk h ho hv, fun z => absurd (nI_le (a := 6) (Nat.le_refl _) (by decide)) z⟩
  | succ d ih =>
    intro i h hd hi ho hv
    refine vX8_apart_3 ⟨fun z => ?_, fun _ => ⟨vp_in_nI (by omega) (by decide), ?_⟩⟩
    · rw [show (6 : Int32) = nI 6 from rfl, nI_leI (by decide) (by omega)] at z; omega
    · rw [ix_nI (by omega), nI_1]
      refine ih (i + 1) _ (by omega) (by omega) (ho.trans (OnlyM.upC (by decide) (by decide))) (fun j hj => ?_)
      by_cases ej : j = i
      · subst ej; rw [up_at]
      · rw [up_row _ _ _ _ ej]; exact hv j (by omega)
theorem c_apart {p n s a b : Nat} {kd sg pc wy : Nat → Nat} (hab : a ≤ b) (hb : b ≤ 99) (hM : MDt h p n kd sg pc wy) (hs : s < 4096) (kk : ∀ h2 : Hp, OnlyM [54, 55, 56, 59] [23, 24, 25] h h2 → K (nI (spr (tC p n kd sg pc wy a (b + 1 - a) s) n)) h2) : FI g mX8_apart [.ref 44, .int (nI s), .int (nI a), .int (nI b)] h K := by
  have hn := hM.2.1
  refine eX8_apart (vX8_apart_0 ?_)
  refine l_apart3 (g := g) (fun h2 o2 v2 => ?_) 6 0 h rfl (by decide) (OnlyM.rf _) (fun j hj => by omega)
  have := l_apart27 (g := g) (K := K) (h0 := h2) (a := a) (m := b + 1 - a) (s := s) (by omega) (by omega) (hM.keep o2 (by decide) (by decide)) hs (fun h3 o3 => kk h3 ((o2.weaken (by decide) (by decide)).trans o3)) (b + 1 - a) 0 h2 rfl (Nat.zero_le _) (OnlyM.rf _) (fun j hj => v2 j (by omega))
  rw [show a + (b + 1 - a) - 1 = b by omega, Nat.add_zero] at this
  exact this
theorem l_mlaid {p n a b k : Nat} {q : Int32} {kd sg pc wy : Nat → Nat} {h0 : Hp} (hab : a ≤ b) (hb : b ≤ 99) (hk : k ≤ 12) (hM0 : MDt h0 p n kd sg pc wy)
    (kk : ∀ (h2 : Hp) (o : Option Nat), OnlyM [54, 55, 56, 59] [23, 24, 25] h0 h2 → BG (fun s => pcn s = k) (fun s => spr (tC p n kd sg pc wy a (b + 1 - a) s) n) (2 ^ p) o → K (if q = 0 then oX o (fun s => spr (tC p n kd sg pc wy a (b + 1 - a) s) n) 999 else oI o) h2) : ∀ (d i : Nat) (h : Hp) (o : Option Nat), 2 ^ p - i = d → i ≤ 2 ^ p → OnlyM [54, 55, 56, 59] [23, 24, 25] h0 h → BG (fun s => pcn s = k) (fun s => spr (tC p n kd sg pc wy a (b + 1 - a) s) n) i o → wX8_laid_47 g K h (nI k) (nI a) (nI b) q (oI o) (oX o (fun s => spr (tC p n kd sg pc wy a (b + 1 - a) s) n) 999) (nI i) := by
  have hn := hM0.2.1
  have hp := hM0.1
  have h2p : 2 ^ p ≤ 4096 := Nat.pow_le_pow_right (by decide) hp
  have hf : ∀ s j, tC p n kd sg pc wy a (b + 1 - a) s j ≤ 100 := fun s j => by
    have := tal_le (sT p n kd sg pc wy s (2 ^ n - 1)) j a (b + 1 - a)
    show tal _ _ _ _ ≤ 100
    omega
  have o9 : ∀ o : Option Nat, ∃ x, x ≤ 999 ∧ oX o (fun s => spr (tC p n kd sg pc wy a (b + 1 - a) s) n) 999 = nI x := fun o => by
    cases o with
    | none => exact ⟨999, by omega, rfl⟩
    | some v => exact ⟨spr (tC p n kd sg pc wy a (b + 1 - a) v) n, by have := spr_le (hf v) n; omega, rfl⟩
  intro d
  induction d with
  | zero =>
    intro i h o hd hi ho hb'
    have ei : i = 2 ^ p := by omega
    subst ei
    exact vX8_laid_47 ⟨fun _ => br_v' (P := fun v => K v h) (kk h o ho hb'), fun z => absurd (by rw [ho.2 6 (by decide), hM0.2.2.2.1, a_shl1 (by omega)]; exact nI_le (Nat.le_refl _) (by omega)) z⟩
  | succ d ih =>
    intro i h o hd hi ho hb'
    have e6 : h 44 6 = nI p := by rw [ho.2 6 (by decide)]; exact hM0.2.2.2.1
    have hpi : pcn i ≤ 12 := pcN_le i 12
    refine vX8_laid_47 ⟨fun z => ?_, fun _ => c_bits (by omega) ?_⟩
    · rw [e6, a_shl1 (by omega), nI_leI (by omega) (by omega)] at z; omega
    · rw [nI_eq (by omega) (by omega)]
      refine ⟨fun z => ?_, fun z => ?_⟩
      · obtain ⟨x, hx, ex⟩ := o9 o
        have nx := ih (i + 1) h o (by omega) (by omega) ho (BG.no (G := fun s => pcn s = k) z hb')
        rw [ex] at nx ⊢
        have le9 : nI x ≤ (999 : Int32) := nI_le (b := 999) (by omega) (by decide)
        refine ⟨fun _ => vX8_laid_97 ⟨fun _ => ?_, fun y => absurd le9 y⟩, fun y => absurd le9 y⟩
        rw [nI_1]; exact nx
      · refine c_apart hab hb (hM0.keep ho (by decide) (by decide)) (by omega) (fun h2 o2 => ?_)
        have hs := spr_le (hf i) n
        have o02 := ho.trans o2
        cases o with
        | none =>
          have gt9 : ¬ nI 999 ≤ nI (spr (tC p n kd sg pc wy a (b + 1 - a) i) n) := by rw [nI_leI (by decide) (by omega)]; omega
          refine ⟨fun y => absurd y gt9, fun _ => vX8_laid_97 ⟨fun y => absurd y gt9, fun _ => ?_⟩⟩
          rw [nI_1]
          exact ih (i + 1) h2 (some i) (by omega) (by omega) o02 (BG.new (G := fun s => pcn s = k) z (fun v y => by cases y) hb')
        | some v =>
          have hsv := spr_le (hf v) n
          have hiff : oX (some v) (fun s => spr (tC p n kd sg pc wy a (b + 1 - a) s) n) 999 ≤ nI (spr (tC p n kd sg pc wy a (b + 1 - a) i) n) ↔ spr (tC p n kd sg pc wy a (b + 1 - a) v) n ≤ spr (tC p n kd sg pc wy a (b + 1 - a) i) n := nI_leI (a := spr (tC p n kd sg pc wy a (b + 1 - a) v) n) (by omega) (by omega)
          refine ⟨fun y => vX8_laid_97 ⟨fun _ => ?_, fun y2 => absurd y y2⟩, fun y => vX8_laid_97 ⟨fun y2 => absurd y2 y, fun _ => ?_⟩⟩
          · rw [nI_1]
            exact ih (i + 1) h2 (some v) (by omega) (by omega) o02 (hb'.keep (hiff.mp y))
          · rw [nI_1]
            exact ih (i + 1) h2 (some i) (by omega) (by omega) o02 (BG.new (G := fun s => pcn s = k) z (fun w e => by
              cases e
              exact Nat.lt_of_not_le (fun z2 => y (hiff.mpr z2))) hb')
theorem op_laid {a b c d : Int32} (hS : Sim h) : FI g mX7_laid [.ref 0, .int a, .int b, .int c, .int d] h (fun r h1 => FI g mX8_laid [.ref 44, .int a, .int b, .int c, .int d] h1 (fun r2 h2 => r = r2 ∧ Sim h2)) := by
  obtain ⟨p, n, ch, kd, sg, pc, wy, wt, hT, -⟩ := (Sim.iff h).mp hS
  have hn := hT.1.2.2.1
  have hp := hT.1.2.1
  have e0 : (0 : Int32).toInt = 0 := by decide
  have inP : ∀ (hh : Hp) (K2 : Int32 → Hp → Prop), hh 44 6 = nI p → K2 (bi (decide (0 ≤ a.toInt ∧ a.toInt ≤ (p : Int)))) hh → FI g mX8_in [.long a.toInt64, .long (0 : Int64), .long ((hh 44 6).toInt64)] hh K2 := fun hh K2 e hk => c_inI (by decide) (by rw [e, Int32.toInt_toInt64, nI_toInt (by omega)]) hk
  have bad : ¬ (0 ≤ a.toInt ∧ a.toInt ≤ (p : Int)) → FI g mX8_laid [.ref 44, .int a, .int b, .int c, .int d] h (fun r2 h2 => (-3 : Int32) = r2 ∧ Sim h2) := fun hb => eX8_laid (vX8_laid_0 (inP _ _ hT.2.2.1.1 (br_b (fun _ => ⟨rfl, hS⟩) (fun z => absurd (of_decide_eq_true z) hb))))
  refine eX7_laid (vX7_laid_0 ⟨fun hx => bad (by rw [i_lt, e0] at hx; omega), fun hx => ⟨fun hy => bad ?_, fun hy => ?_⟩⟩)
  · rw [hT.2.1.1, i_lt, nI_toInt (by omega)] at hy; omega
  · rw [i_lt, e0] at hx
    rw [hT.2.1.1, i_lt, nI_toInt (by omega)] at hy
    have hin : 0 ≤ a.toInt ∧ a.toInt ≤ (p : Int) := by omega
    refine c_areMinutes (br_b (fun e1 => ?_) (fun e1 => c_isEither (br_b' (fun e2 => ?_) (fun e2 => ?_))))
    · exact eX8_laid (vX8_laid_0 (inP _ _ hT.2.2.1.1 (br_b (fun z => absurd hin (of_decide_eq_false z)) (fun _ => c_isSpan (br_b (fun _ => ⟨rfl, hS⟩) (fun z => by rw [e1] at z; cases z))))))
    · exact eX8_laid (vX8_laid_0 (inP _ _ hT.2.2.1.1 (br_b (fun z => absurd hin (of_decide_eq_false z)) (fun _ => c_isSpan (br_b (fun z => by rw [e1] at z; cases z) (fun _ => c_inE (br_b' (fun _ => ⟨rfl, hS⟩) (fun z => by rw [e2] at z; cases z))))))))
    · obtain ⟨A, B, hAB, hB, rfl, rfl⟩ := spn_of e1
      obtain ⟨k, hk, ek⟩ : ∃ k, k ≤ p ∧ a = nI k := ⟨a.toInt.toNat, by omega, by rw [i_eq, nI_toInt (by omega)]; omega⟩
      have hex : 2 ^ k - 1 < 2 ^ p := by
        have h1 := Nat.one_le_two_pow (n := k)
        have := Nat.pow_le_pow_right (n := 2) (by decide) hk
        omega
      have hno : ∀ o : Option Nat, BG (fun s => pcn s = k) (fun s => spr (tC p n kd sg pc wy A (B + 1 - A) s) n) (2 ^ p) o → ∃ v, o = some v := fun o hb => by
        cases o with
        | none => exact absurd (pcn_ex k (by omega)) (hb _ hex)
        | some v => exact ⟨v, rfl⟩
      rw [ek]
      refine eX1_findLaid (vX1_findLaid_0 (c_told hT (fun h2 o2 hT2 hW2 e5 e6 => ?_)))
      refine l_xlaid (g := g) (h0 := h) hAB hB (by omega) hT (fun h3 o o3 hb f3 f4 => ?_) (2 ^ p) 0 _ none rfl (Nat.zero_le _) (((o2.weaken (by decide)).trans (Only.up (by decide))).trans (Only.up (by decide))) hW2 e5 (fun w hw => by omega) rfl rfl
      have hT3 := hT.xo o3 (fun _ z => z)
      obtain ⟨v, rfl⟩ := hno o hb
      have mside : ∀ {r : Int32}, (r = if d = 0 then nI (spr (tC p n kd sg pc wy A (B + 1 - A) v) n) else nI v) → FI g mX8_laid [.ref 44, .int (nI k), .int (nI A), .int (nI B), .int d] h3 (fun r2 h2 => r = r2 ∧ Sim h2) := by
        intro r hr
        rw [← ek]
        refine eX8_laid (vX8_laid_0 (inP _ _ hT3.2.2.1.1 (br_b (fun z => absurd hin (of_decide_eq_false z)) (fun _ => c_isSpan (br_b (fun z => by rw [e1] at z; cases z) (fun _ => c_inE (br_b' (fun z => by rw [e2] at z; cases z) (fun _ => ?_))))))))
        rw [ek]
        refine l_mlaid (g := g) (h0 := h3) hAB hB (by omega) hT3.md (fun h4 ob o4 hb4 => ?_) (2 ^ p) 0 h3 none rfl (Nat.zero_le _) (OnlyM.rf _) (fun w hw => by omega)
        rw [hb4.uniq hb]
        exact ⟨hr, (hS.x o3).m (o4.weaken (by decide) (by decide))⟩
      refine ⟨fun z => ?_, fun z => ?_⟩
      · rw [f4]; exact mside (by rw [if_neg z]; rfl)
      · rw [f3]; exact mside (by rw [if_pos z]; rfl)
end Ld
