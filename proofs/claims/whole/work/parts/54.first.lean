/-! the law from its start -/
theorem sim0 {a a2 : Hp} (h7 : FX7 (fun _ _ => 0) a 0) (h8 : FX8 (q_upA a 44 (fun _ => 0)) a2 44) : Sim a2 := by
  obtain ⟨⟨x1, x2, x3⟩, x4, ⟨x5, x6, x7⟩, x8, x9, x10, x11⟩ := h7
  obtain ⟨m0, ⟨m1, m2, m3, m4, m5⟩, m6, m7, m8⟩ := h8
  have e : ∀ q, q < 44 → a2 q = a q := fun q hq => by rw [m0 q hq, q_upA_ne (by omega)]
  refine (Sim.iff a2).mpr ⟨8, 0, 0, fun _ => 0, fun _ => 0, fun _ => 0, fun _ => 0, fun _ => 0, ⟨⟨by decide, by decide, by decide, by decide⟩, ⟨?_, ?_, ?_⟩, ⟨m1, m3, m4⟩, fun k hk => absurd hk (Nat.not_lt_zero _)⟩, ⟨0, by decide, ?_, m2, fun i hi => absurd hi (Nat.not_lt_zero _)⟩, ⟨⟨0, by decide, ?_, ?_⟩, ⟨true, ?_, ?_⟩, ?_, fun k hk => absurd hk (Nat.not_lt_zero _), fun q hq => ⟨fun k hk => absurd hk (Nat.not_lt_zero _), Or.inl ?_⟩⟩, ⟨false, ?_, m7, fun z => by cases z⟩, ⟨false, ?_, m8, fun z => by cases z⟩, ⟨0, by decide, ?_, m5, fun i hi => absurd hi (Nat.not_lt_zero _)⟩⟩
  · rw [e 1 (by decide)]; exact x1
  · rw [e 1 (by decide)]; exact x2
  · rw [e 1 (by decide)]; exact x3
  · rw [e 7 (by decide)]; exact x4
  · rw [e 26 (by decide)]; exact x5
  · rw [m6 0 (by omega) (by omega)]; rfl
  · rw [e 26 (by decide)]; exact x6
  · rw [m6 (0 + 1) (by omega) (by omega)]; rfl
  · rw [e 26 (by decide), m6 (0 + 2) (by omega) (by omega)]; exact x7
  · rw [e 29 (by decide)]; exact x8 q (by omega)
  · rw [e 31 (by decide)]; exact x9
  · rw [e 36 (by decide)]; exact x10
  · rw [e 41 (by decide)]; exact x11
theorem law_start {g : QG} {K : Int32 → Hp → Prop} (hL : q_L g < 2 ^ 31) (hQ : StrOK g) (kk : ∀ h2 : Hp, K 1 h2) : QW g mL_law 0 [some (.ref 1000), none, none, none] [] ([], fun _ _ => 0) 0 0 (q_RI K) := by
  refine QW.new (n := 0) dL_law_0 rfl (Nat.le_of_ble_eq_true rfl) rfl rfl ⟨lqL_7, ib7, lc_mX7_init.1⟩ ⟨Nat.le_of_ble_eq_true rfl, Nat.le_of_ble_eq_true rfl⟩ ?_
  refine QW.dupr dL_law_3 ?_
  refine QW.callI (av := []) (rest := [.ref 0]) (by decide) rfl dL_law_4 lmL_9 rfl rfl ⟨Nat.le_of_ble_eq_true rfl, Nat.le_of_ble_eq_true rfl⟩ ⟨Nat.le_of_ble_eq_true rfl, Nat.le_of_ble_eq_true rfl⟩ (by decide) (kX7_0 (fun a f7 => ?_))
  refine QW.astore_n [some (.ref 1000), some (.ref 0), none, none] dL_law_7 (by decide) rfl rfl ?_
  refine QW.new (n := 44) dL_law_8 rfl (Nat.le_of_ble_eq_true rfl) rfl rfl ⟨lqL_10, ib8, lc_mX8_init.1⟩ ⟨Nat.le_of_ble_eq_true rfl, Nat.le_of_ble_eq_true rfl⟩ ?_
  refine QW.dupr dL_law_11 ?_
  refine QW.callI (av := []) (rest := [.ref 44]) (by decide) rfl dL_law_12 lmL_12 rfl rfl ⟨Nat.le_of_ble_eq_true rfl, Nat.le_of_ble_eq_true rfl⟩ ⟨Nat.le_of_ble_eq_true rfl, Nat.le_of_ble_eq_true rfl⟩ (by decide) (kX8_44 (fun j => rfl) (fun a2 f8 => ?_))
  refine QW.astore_n [some (.ref 1000), some (.ref 0), some (.ref 44), none] dL_law_15 (by decide) rfl rfl ?_
  refine QW.iconst (0 : Int32) rfl dL_law_16 (QW.istore_n [some (.ref 1000), some (.ref 0), some (.ref 44), some (.int (nI 0))] dL_law_17 (by decide) rfl rfl ?_)
  exact law_loop hL hQ kk (q_L g) 0 a2 (by omega) (by decide) (sim0 ⟨f7.1, f7.2⟩ f8)
