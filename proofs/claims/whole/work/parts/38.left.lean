/-! left -/
def clr (c : Nat) : Nat := c &&& (c - 1)
theorem clr_le (c : Nat) : clr c ≤ c := Nat.and_le_left
set_option maxRecDepth 20000 in
theorem clr_x0 : ∀ a, a < 64 → ∀ b, b < 64 → nI (64 * a + b) &&& (nI (64 * a + b) - 1) = nI (clr (64 * a + b)) ∧ nI (64 * a + b) &&& ((nI (64 * a + b) &&& -nI (64 * a + b)) ^^^ (-1)) = nI (clr (64 * a + b)) := by decide +kernel
theorem clr_x {c : Nat} (h : c < 4096) : nI c &&& (nI c - 1) = nI (clr c) ∧ nI c &&& ((nI c &&& -nI c) ^^^ (-1)) = nI (clr c) := by
  have := clr_x0 (c / 64) (by omega) (c % 64) (Nat.mod_lt _ (by decide))
  rw [Nat.div_add_mod] at this
  exact this
theorem pcn_sdf0 : ∀ A, A < 64 → ∀ S, S < 64 → ¬ S = 0 → A &&& S = S → pcn (sdf A S) < pcn A := by decide +kernel
theorem pcn_all : ∀ n, n ≤ 6 → pcn (2 ^ n - 1) ≤ 6 := by decide
theorem sdf_z (A : Nat) : sdf A 0 = A := by unfold sdf; simp
theorem StR.sub {p n : Nat} {kd at_ : Nat → Nat} {c A S : Nat} (h : StR p n kd at_ c A S) : A &&& S = S := by
  obtain ⟨F, t, -, -, hs⟩ := h
  apply Nat.eq_of_testBit_eq
  intro i
  rw [Nat.testBit_and, hs i, sdf_tb]
  cases A.testBit i <;> simp
/-- rounds: A among, c chairs, i stops -/
def rnd (f : Nat → Nat → Nat) : Nat → Nat → Nat → Nat → Nat × Nat
  | 0, A, _, i => (A, i)
  | d + 1, A, c, i => if pcn A ≤ 1 then (A, i) else if f c A = 0 then (A, i + 1) else rnd f d (sdf A (f c A)) (clr c) (i + 1)
section Lf
variable {g : QG} {h : Hp} {K : Int32 → Hp → Prop} {KV : Hp → Prop}
theorem c_stoodAtT {p n t A c : Nat} {kd sg pc wy : Nat → Nat} (ht : t ≤ 99) (hX : XD h p n kd sg) (hW : XW h n pc wy) (hA : A < 2 ^ n) (hc : c < 4096) (e5 : h 20 5 = nI A) (e6 : h 20 6 = nI c)
    (kk : ∀ (h2 : Hp), Only [16, 17, 18, 19] h h2 → StR p n kd (atT p sg pc wy t) c A (SS p n kd (atT p sg pc wy t) c A) → SS p n kd (atT p sg pc wy t) c A < 64 → K (nI (SS p n kd (atT p sg pc wy t) c A)) h2) : FI g mX2_stoodAt [.ref 20, .int (nI t)] h K := by
  refine eX2_stoodAt (vX2_stoodAt_0 (c_goTo ht hX hW (fun h1 o1 v1 => ?_)))
  rw [o1 20 (by decide), e5, e6]
  refine c_settle (XD.xt (hX.keep o1 (by decide)) v1) hA hc (fun h2 S u o2 x2 hD hSt hS => ?_)
  have hs : StR p n kd (atT p sg pc wy t) c A S := ⟨fset kd 2 n, u, fset_fnt n kd, hD, hSt⟩
  have es : S = SS p n kd (atT p sg pc wy t) c A := hs.ss
  rw [es] at hS hs ⊢
  exact kk h2 ((o1.weaken (by decide)).trans (o2.weaken (by decide))) hs hS
theorem c_stopsT {p n c A : Nat} {kd at_ : Nat → Nat} (hM : MT h p n kd at_) (hA : A < 2 ^ n) (hc : c < 4096)
    (kk : ∀ h2 : Hp, OnlyM [55, 56] [23, 24, 25] h h2 → StR p n kd at_ c A (SS p n kd at_ c A) → SS p n kd at_ c A < 64 → K (nI (SS p n kd at_ c A)) h2) : FI g mX8_stops [.ref 44, .int (nI c), .int (nI A)] h K := by
  refine c_stops hM (p64 hM.2.1 hA) hc (fun h2 S u u2 o2 hD hD2 hMS hSt hS => ?_)
  have hs : StR p n kd at_ c A S := ⟨fset kd 2 n, u, fset_fnt n kd, hD, hSt.back hD2⟩
  have es : S = SS p n kd at_ c A := hs.ss
  rw [es] at hS hs ⊢
  exact kk h2 o2 hs hS
theorem l_xleft {p n t : Nat} {kd sg pc wy : Nat → Nat} (ht : t ≤ 99) : ∀ (d A c i : Nat) (h : Hp), XD h p n kd sg → XW h n pc wy → A < 2 ^ n → c < 4096 → h 20 5 = nI A → h 20 6 = nI c → pcn A ≤ d → pcn A + i ≤ 6 → (∀ h2 : Hp, Only [16, 17, 18, 19, 20] h h2 → h2 20 5 = nI (rnd (fun c A => SS p n kd (atT p sg pc wy t) c A) d A c i).1 → K (nI (rnd (fun c A => SS p n kd (atT p sg pc wy t) c A) d A c i).2) h2) → wX2_playRounds_6 g K h (nI t) (nI i) := by
  intro d
  induction d with
  | zero =>
    intro A c i h hX hW hA hc e5 e6 hd h6 kk
    have hA6 := p64 hX.2.1 hA
    refine vX2_playRounds_6 ⟨fun z => ?_, fun _ => ?_⟩
    · rw [show (6 : Int32) = nI 6 from rfl, nI_ltI (by decide) (by omega)] at z; omega
    · rw [e5]
      refine c_bitCount (by omega) ⟨fun _ => kk h (Only.rf _) e5, fun z => ?_⟩
      rw [show (1 : Int32) = nI 1 from rfl, nI_leI (by omega) (by decide)] at z; omega
  | succ d ih =>
    intro A c i h hX hW hA hc e5 e6 hd h6 kk
    have hA6 := p64 hX.2.1 hA
    have pA : pcn A ≤ 12 := pcN_le A 12
    refine vX2_playRounds_6 ⟨fun z => ?_, fun _ => ?_⟩
    · rw [show (6 : Int32) = nI 6 from rfl, nI_ltI (by decide) (by omega)] at z; omega
    · rw [e5]
      refine c_bitCount (by omega) ?_
      rw [show (nI (pcn A) ≤ (1 : Int32)) ↔ pcn A ≤ 1 from nI_leI (b := 1) (by omega) (by decide)]
      refine ⟨fun z => ?_, fun z => ?_⟩
      · unfold rnd at kk
        rw [if_pos z] at kk
        exact kk h (Only.rf _) e5
      · refine c_stoodAtT ht hX hW hA hc e5 e6 (fun h2 o2 hs h64 => ?_)
        unfold rnd at kk
        rw [if_neg z] at kk
        rw [nI_eq0 (by omega)]
        refine ⟨fun q => ?_, fun q => ?_⟩
        · rw [if_neg q] at kk
          have h20 : h2 20 = h 20 := o2 20 (by decide)
          have hlt := pcn_sdf0 A hA6 _ h64 q hs.sub
          rw [h20, e5, e6, a_sdf (by omega) (by omega), (clr_x hc).1, nI_1]
          have o3 : Only [16, 17, 18, 19, 20] h (q_up (q_up h2 20 5 (nI (sdf A (SS p n kd (atT p sg pc wy t) c A)))) 20 6 (nI (clr c))) := ((o2.weaken (by decide)).trans (Only.up (by decide))).trans (Only.up (by decide))
          have hc2 := clr_le c
          refine ih (sdf A (SS p n kd (atT p sg pc wy t) c A)) (clr c) (i + 1) _ (hX.keep o3 (by decide)) (fun k hk => by rw [o3 21 (by decide), o3 22 (by decide)]; exact hW k hk) (sdf_le hA) (by omega) rfl rfl (by omega) (by omega) (fun h3 o4 e4 => kk h3 (o3.trans o4) e4)
        · rw [if_pos q] at kk
          rw [nI_1]
          exact kk h2 (o2.weaken (by decide)) (by rw [o2 20 (by decide)]; exact e5)
theorem l_mleft {p n t : Nat} {q : Int32} {kd sg pc wy : Nat → Nat} (ht : t ≤ 99) : ∀ (d A c i : Nat) (b : Bool) (h : Hp), MDt h p n kd sg pc wy → A < 2 ^ n → c < 4096 → pcn A ≤ d → (b = true ↔ ¬ pcn A ≤ 1) → (∀ h2 : Hp, OnlyM [54, 55, 56] [23, 24, 25] h h2 → K (if q = 0 then nI (rnd (fun c A => SS p n kd (atT p sg pc wy t) c A) d A c i).1 else nI (rnd (fun c A => SS p n kd (atT p sg pc wy t) c A) d A c i).2) h2) → wX8_left_49 g K h (nI t) q (nI A) (nI c) (nI i) (bi b) := by
  intro d
  induction d with
  | zero =>
    intro A c i b h hM hA hc hd hb kk
    have hbf : b = false := by
      cases b with
      | false => rfl
      | true => exact absurd (by omega) (hb.mp rfl)
    subst hbf
    refine vX8_left_49 ⟨fun _ => ?_, fun z => absurd rfl z⟩
    exact br_v' (P := fun v => K v h) (kk h (OnlyM.rf _))
  | succ d ih =>
    intro A c i b h hM hA hc hd hb kk
    have hA6 := p64 hM.2.1 hA
    refine vX8_left_49 ⟨fun z => ?_, fun z => ?_⟩
    · rw [bi0] at z
      have hle : pcn A ≤ 1 := by
        by_cases e : pcn A ≤ 1
        · exact e
        · rw [hb.mpr e] at z; cases z
      unfold rnd at kk
      rw [if_pos hle] at kk
      exact br_v' (P := fun v => K v h) (kk h (OnlyM.rf _))
    · rw [bin0] at z
      have hle := hb.mp z
      unfold rnd at kk
      rw [if_neg hle] at kk
      refine c_layAts ht hM (fun h1 o1 v1 => ?_)
      have hM1 : MDt h1 p n kd sg pc wy := hM.keep o1 (by decide) (by decide)
      refine c_stopsT (hM1.mt v1) hA hc (fun h2 o2 hs h64 => ?_)
      have o02 : OnlyM [54, 55, 56] [23, 24, 25] h h2 := (o1.weaken (by decide) (by decide)).trans (o2.weaken (by decide) (by decide))
      have hM2 : MDt h2 p n kd sg pc wy := hM.keep o02 (by decide) (by decide)
      refine eX8_leastOf (vX8_leastOf_0 ?_)
      rw [nI_eq0 (by omega), a_sdf (by omega) (by omega), (clr_x hc).2, nI_1]
      have hc2 := clr_le c
      have hA3 : sdf A (SS p n kd (atT p sg pc wy t) c A) < 2 ^ n := sdf_le hA
      have hA36 := p64 hM.2.1 hA3
      refine ⟨fun q0 => ?_, fun q0 => ?_⟩
      · rw [if_pos q0] at kk
        rw [q0, sdf_z]
        refine vX8_left_49 ⟨fun _ => ?_, fun z => absurd rfl z⟩
        exact br_v' (P := fun v => K v h2) (kk h2 o02)
      · rw [if_neg q0] at kk
        have hlt := pcn_sdf0 A hA6 _ h64 q0 hs.sub
        have pA : pcn (sdf A (SS p n kd (atT p sg pc wy t) c A)) ≤ 12 := pcN_le _ 12
        refine c_bits (by omega) ?_
        rw [show (nI (pcn (sdf A (SS p n kd (atT p sg pc wy t) c A))) ≤ (1 : Int32)) ↔ pcn (sdf A (SS p n kd (atT p sg pc wy t) c A)) ≤ 1 from nI_leI (b := 1) (by omega) (by decide)]
        refine ⟨fun y => ?_, fun y => ?_⟩
        · exact ih _ (clr c) (i + 1) false h2 hM2 hA3 (by omega) (by omega) ⟨fun w => (by cases w), fun w => absurd y w⟩ (fun h3 o3 => kk h3 (o02.trans o3))
        · exact ih _ (clr c) (i + 1) true h2 hM2 hA3 (by omega) (by omega) ⟨fun _ => y, fun _ => rfl⟩ (fun h3 o3 => kk h3 (o02.trans o3))
theorem op_left {a b : Int32} (hS : Sim h) : FI g mX7_left [.ref 0, .int a, .int b] h (fun r h1 => FI g mX8_left [.ref 44, .int a, .int b] h1 (fun r2 h2 => r = r2 ∧ Sim h2)) := by
  obtain ⟨p, n, ch, kd, sg, pc, wy, wt, hT, -⟩ := (Sim.iff h).mp hS
  have hn := hT.1.2.2.1
  have h1n := Nat.one_le_two_pow (n := n)
  have h2n : 2 ^ n - 1 < 64 := p64 hn (by omega)
  refine eX7_left (vX7_left_0 (c_isMinute (br_b (fun e1 => ?_) (fun e1 => c_isEither (br_b' (fun e2 => ?_) (fun e2 => ?_))))))
  · exact eX8_left (vX8_left_0 (c_isTime (br_b (fun _ => ⟨rfl, hS⟩) (fun z => by rw [e1] at z; cases z))))
  · exact eX8_left (vX8_left_0 (c_isTime (br_b (fun z => by rw [e1] at z; cases z) (fun _ => c_inE (br_b' (fun _ => ⟨rfl, hS⟩) (fun z => by rw [e2] at z; cases z))))))
  · obtain ⟨t, ht, rfl⟩ := min_of e1
    have h6 := pcn_all n hn
    refine eX2_playRounds (vX2_playRounds_0 (c_told hT (fun h2 o2 hT2 hW2 e5 e6 => ?_)))
    refine l_xleft (g := g) ht 6 (2 ^ n - 1) ch 0 h2 hT2.xd hW2 hT.all hT.c4 e5 e6 h6 (by omega) (fun h3 o3 f5 => ?_)
    have o4 : Only scX h h3 := (o2.weaken (by decide)).trans (o3.weaken (by decide))
    have hT3 := hT.xo o4 (fun _ z => z)
    have mside : ∀ {r : Int32}, (r = if b = 0 then nI (rnd (fun c A => SS p n kd (atT p sg pc wy t) c A) 6 (2 ^ n - 1) ch 0).1 else nI (rnd (fun c A => SS p n kd (atT p sg pc wy t) c A) 6 (2 ^ n - 1) ch 0).2) → FI g mX8_left [.ref 44, .int (nI t), .int b] h3 (fun r2 h2 => r = r2 ∧ Sim h2) := by
      intro r hr
      refine eX8_left (vX8_left_0 (c_isTime (br_b (fun z => by rw [e1] at z; cases z) (fun _ => c_inE (br_b' (fun z => by rw [e2] at z; cases z) (fun _ => c_everybody hn hT3.2.2.1.2.2 (c_bits (by omega) ?_)))))))
      rw [hT3.2.2.1.2.1, show (nI (pcn (2 ^ n - 1)) ≤ (1 : Int32)) ↔ pcn (2 ^ n - 1) ≤ 1 from nI_leI (b := 1) (by omega) (by decide)]
      have fin : ∀ h4 : Hp, OnlyM [54, 55, 56] [23, 24, 25] h3 h4 → (r = if b = 0 then nI (rnd (fun c A => SS p n kd (atT p sg pc wy t) c A) 6 (2 ^ n - 1) ch 0).1 else nI (rnd (fun c A => SS p n kd (atT p sg pc wy t) c A) 6 (2 ^ n - 1) ch 0).2) ∧ Sim h4 := fun h4 o5 => ⟨hr, (hS.x o4).m (o5.weaken (by decide) (by decide))⟩
      refine ⟨fun y => ?_, fun y => ?_⟩
      · exact l_mleft (g := g) ht 6 (2 ^ n - 1) ch 0 false h3 hT3.md hT.all hT.c4 h6 ⟨fun w => (by cases w), fun w => absurd y w⟩ fin
      · exact l_mleft (g := g) ht 6 (2 ^ n - 1) ch 0 true h3 hT3.md hT.all hT.c4 h6 ⟨fun _ => y, fun _ => rfl⟩ fin
    refine ⟨fun z => mside (by rw [if_neg z]), fun z => ?_⟩
    rw [f5]
    exact mside (by rw [if_pos z])
end Lf
