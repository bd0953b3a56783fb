/-! what each part of the likeness looks at; the small calls -/
theorem TdR.cg {h h2 : Hp} {p n c : Nat} {kd sg pc wy wt : Nat → Nat} (a : TdR h p n c kd sg pc wy wt) (e : h2 1 = h 1 ∧ h2 2 = h 2 ∧ h2 3 = h 3 ∧ h2 4 = h 4 ∧ h2 5 = h 5 ∧ h2 6 = h 6) (f : h2 49 = h 49 ∧ h2 50 = h 50 ∧ h2 51 = h 51 ∧ h2 52 = h 52 ∧ h2 53 = h 53) (j : h2 44 6 = h 44 6 ∧ h2 44 7 = h 44 7 ∧ h2 44 13 = h 44 13) : TdR h2 p n c kd sg pc wy wt := by
  obtain ⟨e1, e2, e3, e4, e5, e6⟩ := e
  obtain ⟨f1, f2, f3, f4, f5⟩ := f
  obtain ⟨j1, j2, j3⟩ := j
  unfold TdR at a ⊢
  rw [e1, e2, e3, e4, e5, e6, f1, f2, f3, f4, f5, j1, j2, j3]
  exact a
theorem TxR.cg {h h2 : Hp} (a : TxR h) (e : h2 7 1 = h 7 1 ∧ h2 44 3 = h 44 3 ∧ h2 8 = h 8 ∧ h2 47 = h 47) : TxR h2 := by
  unfold TxR at a ⊢
  rw [e.1, e.2.1, e.2.2.1, e.2.2.2]
  exact a
theorem EvR.cg {h h2 : Hp} {e o p n : Nat} (a : EvR h e o p n) (hn : n ≤ 6) (c0 : h2 e 0 = h e 0 ∧ h2 e 1 = h e 1 ∧ h2 e 3 = h e 3) (c1 : h2 (e + 1) = h (e + 1) ∧ h2 (e + 2) = h (e + 2) ∧ h2 (e + 3) = h (e + 3) ∧ h2 (e + 4) = h (e + 4)) (r : ∀ j, j < 27 → h2 45 (o + j) = h 45 (o + j)) : EvR h2 e o p n := by
  obtain ⟨⟨t, t1, t2, t3⟩, ⟨b, b1, b2⟩, s, q, ho⟩ := a
  refine ⟨⟨t, t1, c0.1.trans t2, (r 0 (by decide)).trans t3⟩, ⟨b, c0.2.1.trans b1, (r 1 (by decide)).trans b2⟩, c0.2.2.trans (s.trans (r 2 (by decide)).symm), fun k hk => ?_, fun q hq => ?_⟩
  · obtain ⟨⟨a, x1, x2, x3⟩, y, z⟩ := q k hk
    rw [c1.1, c1.2.1, c1.2.2.2, Nat.add_assoc o 3 k, Nat.add_assoc o 9 k, Nat.add_assoc o 21 k, r (3 + k) (by omega), r (9 + k) (by omega), r (21 + k) (by omega)]
    rw [Nat.add_assoc] at x3 y z
    exact ⟨⟨a, x1, x2, x3⟩, y, z⟩
  · have rr : ∀ k, k < n → h2 45 (o + 9 + k) = h 45 (o + 9 + k) ∧ h2 45 (o + 15 + k) = h 45 (o + 15 + k) := fun k hk => by
      rw [Nat.add_assoc o 9 k, Nat.add_assoc o 15 k]; exact ⟨r (9 + k) (by omega), r (15 + k) (by omega)⟩
    obtain ⟨x1, x2⟩ := ho q hq
    rw [c1.2.2.1]
    refine ⟨fun k hk hh => x1 k hk ?_, ?_⟩
    · rw [(rr k hk).1, (rr k hk).2] at hh; exact hh
    · rcases x2 with x2 | ⟨k, hk, y1, y2⟩
      · exact Or.inl x2
      · refine Or.inr ⟨k, hk, y1, ?_⟩
        rw [(rr k hk).1, (rr k hk).2]; exact y2
theorem KpR.cg {h h2 : Hp} {e o i p n : Nat} (a : KpR h e o i p n) (hn : n ≤ 6) (c0 : h2 e = h e) (c2 : h2 46 i = h 46 i) (c1 : h2 (e + 1) = h (e + 1) ∧ h2 (e + 2) = h (e + 2) ∧ h2 (e + 3) = h (e + 3) ∧ h2 (e + 4) = h (e + 4)) (r : ∀ j, j < 27 → h2 45 (o + j) = h 45 (o + j)) : KpR h2 e o i p n := by
  obtain ⟨b, b1, b2, b3⟩ := a
  exact ⟨b, by rw [c0]; exact b1, c2.trans b2, fun hb => (b3 hb).cg hn (by rw [c0]; exact ⟨rfl, rfl, rfl⟩) c1 r⟩
theorem SnR.cg {h h2 : Hp} {n : Nat} (a : SnR h n) (e : h2 41 0 = h 41 0 ∧ h2 44 30 = h 44 30 ∧ h2 42 = h 42 ∧ h2 43 = h 43 ∧ h2 60 = h 60) : SnR h2 n := by
  unfold SnR at a ⊢
  rw [e.1, e.2.1, e.2.2.1, e.2.2.2.1, e.2.2.2.2]
  exact a
section O1
variable {g : QG} {h : Hp}
theorem op_erase (hS : Sim h) : FI g mX7_erase [.ref 0] h (fun r h1 => FI g mX8_erase [.ref 44] h1 (fun r2 h2 => r = r2 ∧ Sim h2)) := by
  obtain ⟨p, n, c, kd, sg, pc, wy, wt, hT, hX, hE, hK1, hK2, hN⟩ := (Sim.iff h).mp hS
  have hn := hT.1.2.2.1
  refine eX7_erase (vX7_erase_0 (eX8_erase (vX8_erase_0 ⟨?_, (Sim.iff _).mpr ⟨p, n, c, kd, sg, pc, wy, wt, hT.cg ⟨rfl, rfl, rfl, rfl, rfl, rfl⟩ ⟨rfl, rfl, rfl, rfl, rfl⟩ ⟨rfl, rfl, rfl⟩, ⟨0, by decide, rfl, rfl, fun i hi => by omega⟩, hE.cg hn ⟨rfl, rfl, rfl⟩ ⟨rfl, rfl, rfl, rfl⟩ (fun j _ => rfl), hK1.cg hn rfl rfl ⟨rfl, rfl, rfl, rfl⟩ (fun j _ => rfl), hK2.cg hn rfl rfl ⟨rfl, rfl, rfl, rfl⟩ (fun j _ => rfl), hN.cg ⟨rfl, rfl, rfl, rfl, rfl⟩⟩⟩)))
  obtain ⟨L, -, e1, e2, -⟩ := hX
  show h 7 1 = h 44 3
  rw [e1, e2]
theorem op_forget (hS : Sim h) : FI g mX7_forget [.ref 0] h (fun r h1 => FI g mX8_forget [.ref 44] h1 (fun r2 h2 => r = r2 ∧ Sim h2)) := by
  obtain ⟨p, n, c, kd, sg, pc, wy, wt, hT, hX, hE, hK1, hK2, hN⟩ := (Sim.iff h).mp hS
  have hn := hT.1.2.2.1
  refine eX7_forget (vX7_forget_0 (eX8_forget (vX8_forget_0 ⟨?_, (Sim.iff _).mpr ⟨p, n, c, kd, sg, pc, wy, wt, hT.cg ⟨rfl, rfl, rfl, rfl, rfl, rfl⟩ ⟨rfl, rfl, rfl, rfl, rfl⟩ ⟨rfl, rfl, rfl⟩, hX.cg ⟨rfl, rfl, rfl, rfl⟩, hE.cg hn ⟨rfl, rfl, rfl⟩ ⟨rfl, rfl, rfl, rfl⟩ (fun j _ => rfl), hK1.cg hn rfl rfl ⟨rfl, rfl, rfl, rfl⟩ (fun j _ => rfl), hK2.cg hn rfl rfl ⟨rfl, rfl, rfl, rfl⟩ (fun j _ => rfl), ⟨0, by decide, rfl, rfl, fun i hi => by omega⟩⟩⟩)))
  obtain ⟨m, -, e1, e2, -⟩ := hN
  show h 41 0 = h 44 30
  rw [e1, e2]
theorem op_count {a : Int32} (hS : Sim h) : FI g mX7_count [.ref 0, .int a] h (fun r h1 => FI g mX8_count [.ref 44, .int a] h1 (fun r2 h2 => r = r2 ∧ Sim h2)) := by
  obtain ⟨p, n, c, kd, sg, pc, wy, wt, hT, hX, hE, hK1, hK2, hN⟩ := (Sim.iff h).mp hS
  obtain ⟨L, -, l1, l2, -⟩ := hX
  obtain ⟨m, -, m1, m2, -⟩ := hN
  obtain ⟨⟨t, -, t1, t2⟩, ⟨b, b1, b2⟩, s1, -⟩ := hE
  have key : ∀ r : Int32, (∀ v : Int32, (v = r → FI g mX8_count [.ref 44, .int a] h (fun r2 h2 => v = r2 ∧ Sim h2))) → FI g mX8_count [.ref 44, .int a] h (fun r2 h2 => r = r2 ∧ Sim h2) := fun r hv => hv r rfl
  refine eX7_count (vX7_count_0 ⟨fun e0 => ?_, fun n0 => ⟨fun e1 => ?_, fun n1 => ⟨fun e2 => ?_, fun n2 => ⟨fun e3 => ?_, fun n3 => ⟨fun e4 => ⟨fun z => ?_, fun z => ?_⟩, fun n4 => ⟨fun e5 => ?_, fun n5 => ⟨fun e6 => ?_, fun n6 => ⟨fun e7 => ?_, fun n7 => ?_⟩⟩⟩⟩⟩⟩⟩⟩)
  · subst e0; exact eX8_count (vX8_count_0 ⟨fun _ => ⟨hT.2.1.1.trans hT.2.2.1.1.symm, hS⟩, fun z => absurd rfl z⟩)
  · subst e1; exact eX8_count (vX8_count_0 ⟨fun z => absurd z n0, fun _ => ⟨fun _ => ⟨hT.2.1.2.2.trans hT.2.2.1.2.2.symm, hS⟩, fun z => absurd rfl z⟩⟩)
  · subst e2; exact eX8_count (vX8_count_0 ⟨fun z => absurd z n0, fun _ => ⟨fun z => absurd z n1, fun _ => ⟨fun _ => ⟨hT.2.1.2.1.trans hT.2.2.1.2.1.symm, hS⟩, fun z => absurd rfl z⟩⟩⟩)
  · subst e3; exact eX8_count (vX8_count_0 ⟨fun z => absurd z n0, fun _ => ⟨fun z => absurd z n1, fun _ => ⟨fun z => absurd z n2, fun _ => ⟨fun _ => ⟨t1.trans t2.symm, hS⟩, fun z => absurd rfl z⟩⟩⟩⟩)
  · subst e4
    refine eX8_count (vX8_count_0 ⟨fun z => absurd z n0, fun _ => ⟨fun z => absurd z n1, fun _ => ⟨fun z => absurd z n2, fun _ => ⟨fun z => absurd z n3, fun _ => ⟨fun _ => ⟨?_, hS⟩, fun z => absurd rfl z⟩⟩⟩⟩⟩)
    rw [b1, bi0] at z
    rw [show h 45 1 = _ from b2, z]; decide
  · subst e4
    refine eX8_count (vX8_count_0 ⟨fun z => absurd z n0, fun _ => ⟨fun z => absurd z n1, fun _ => ⟨fun z => absurd z n2, fun _ => ⟨fun z => absurd z n3, fun _ => ⟨fun _ => ⟨?_, hS⟩, fun z => absurd rfl z⟩⟩⟩⟩⟩)
    rw [b1, bin0] at z
    rw [show h 45 1 = _ from b2, z]; decide
  · subst e5; exact eX8_count (vX8_count_0 ⟨fun z => absurd z n0, fun _ => ⟨fun z => absurd z n1, fun _ => ⟨fun z => absurd z n2, fun _ => ⟨fun z => absurd z n3, fun _ => ⟨fun z => absurd z n4, fun _ => ⟨fun _ => ⟨s1, hS⟩, fun z => absurd rfl z⟩⟩⟩⟩⟩⟩)
  · subst e6; exact eX8_count (vX8_count_0 ⟨fun z => absurd z n0, fun _ => ⟨fun z => absurd z n1, fun _ => ⟨fun z => absurd z n2, fun _ => ⟨fun z => absurd z n3, fun _ => ⟨fun z => absurd z n4, fun _ => ⟨fun z => absurd z n5, fun _ => ⟨fun _ => ⟨m1.trans m2.symm, hS⟩, fun z => absurd rfl z⟩⟩⟩⟩⟩⟩⟩)
  · subst e7; exact eX8_count (vX8_count_0 ⟨fun z => absurd z n0, fun _ => ⟨fun z => absurd z n1, fun _ => ⟨fun z => absurd z n2, fun _ => ⟨fun z => absurd z n3, fun _ => ⟨fun z => absurd z n4, fun _ => ⟨fun z => absurd z n5, fun _ => ⟨fun z => absurd z n6, fun _ => ⟨fun _ => ⟨l1.trans l2.symm, hS⟩, fun z => absurd rfl z⟩⟩⟩⟩⟩⟩⟩⟩)
  · exact eX8_count (vX8_count_0 ⟨fun z => absurd z n0, fun _ => ⟨fun z => absurd z n1, fun _ => ⟨fun z => absurd z n2, fun _ => ⟨fun z => absurd z n3, fun _ => ⟨fun z => absurd z n4, fun _ => ⟨fun z => absurd z n5, fun _ => ⟨fun z => absurd z n6, fun _ => ⟨fun z => absurd z n7, fun _ => ⟨rfl, hS⟩⟩⟩⟩⟩⟩⟩⟩⟩)
theorem eth_of {a : Int32} (h : eth a = true) : ∃ b : Bool, a = bi b := by
  unfold eth at h
  have h := of_decide_eq_true h
  rcases (by omega : a.toInt = 0 ∨ a.toInt = 1) with e | e
  · exact ⟨false, by rw [i_eq, e]; decide⟩
  · exact ⟨true, by rw [i_eq, e]; decide⟩
theorem c_inE {a : Int32} {K : Int32 → Hp → Prop} (hK : K (bi (eth a)) h) : FI g mX8_in [.long a.toInt64, .long (0 : Int64), .long (1 : Int64)] h K := c_inI (by decide) (by decide) hK
theorem op_seen {a b : Int32} (hS : Sim h) : FI g mX7_seen [.ref 0, .int a, .int b] h (fun r h1 => FI g mX8_seen [.ref 44, .int a, .int b] h1 (fun r2 h2 => r = r2 ∧ Sim h2)) := by
  obtain ⟨p, n, c, kd, sg, pc, wy, wt, hT, hX, hE, hK1, hK2, hN⟩ := (Sim.iff h).mp hS
  have hn := hT.1.2.2.1
  obtain ⟨m, hm, m1, m2, m3⟩ := hN
  refine eX7_seen (vX7_seen_0 (c_hasGuest (by omega) hT.2.1.2.2 (br_b' (fun e1 => ?_) (fun e1 => c_isEither (br_b' (fun e2 => ?_) (fun e2 => ⟨fun e3 => ?_, fun e3 => ?_⟩))))))
  · exact eX8_seen (vX8_seen_0 (c_isGuest (by omega) hT.2.2.1.2.2 (br_b' (fun _ => ⟨rfl, hS⟩) (fun z => by rw [e1] at z; cases z))))
  · exact eX8_seen (vX8_seen_0 (c_isGuest (by omega) hT.2.2.1.2.2 (br_b' (fun z => by rw [e1] at z; cases z) (fun _ => c_inE (br_b' (fun _ => ⟨rfl, hS⟩) (fun z => by rw [e2] at z; cases z))))))
  · rw [m1, show (6 : Int32) = nI 6 from rfl, nI_ltI (by omega) (by decide)] at e3
    obtain ⟨w, hw, rfl⟩ := blw_of e1
    obtain ⟨v, rfl⟩ := eth_of e2
    refine eX4_add (vX4_add_0 ⟨fun z => ?_, fun _ => ⟨by rw [m1]; exact vp_in_nI e3 (by decide), by rw [m1]; exact vp_in_nI e3 (by decide), ?_⟩⟩)
    · rw [m1, show (6 : Int32) = nI 6 from rfl, nI_leI (by decide) (by omega)] at z; omega
    · rw [m1, ix_nI (by omega), nI_1]
      refine eX8_seen (vX8_seen_0 (c_isGuest (n := n) (by omega) hT.2.2.1.2.2 (br_b' (fun z => by rw [e1] at z; cases z) (fun _ => c_inE (br_b' (fun z => by rw [e2] at z; cases z) (fun _ => ⟨fun _ => ?_, fun z => ?_⟩))))))
      · have m2' : (q_up (q_up (q_up h 42 m (nI w)) 43 m (bi v)) 41 0 (nI (m + 1))) 44 30 = nI m := m2
        rw [m2', show (2 : Int32) = nI 2 from rfl, pk_mul, nI_1, ix_nI (by omega), ix_nI (by omega), nI_1]
        refine ⟨vp_in_nI (by omega) (by decide), vp_in_nI (by omega) (by decide), up_at _ _ _ _, (Sim.iff _).mpr ⟨p, n, c, kd, sg, pc, wy, wt, hT.cg ⟨rfl, rfl, rfl, rfl, rfl, rfl⟩ ⟨rfl, rfl, rfl, rfl, rfl⟩ ⟨rfl, rfl, rfl⟩, hX.cg ⟨rfl, rfl, rfl, rfl⟩, hE.cg hn ⟨rfl, rfl, rfl⟩ ⟨rfl, rfl, rfl, rfl⟩ (fun j _ => rfl), hK1.cg hn rfl rfl ⟨rfl, rfl, rfl, rfl⟩ (fun j _ => rfl), hK2.cg hn rfl rfl ⟨rfl, rfl, rfl, rfl⟩ (fun j _ => rfl), ⟨m + 1, by omega, rfl, rfl, fun i hi => ?_⟩⟩⟩
        by_cases e : i = m
        · subst e
          refine ⟨⟨w, hw, ?_, ?_⟩, ⟨v, ?_, ?_⟩⟩ <;> simp [q_up, upd]
        · obtain ⟨⟨w2, a1, a2, a3⟩, ⟨v2, a4, a5⟩⟩ := m3 i (by omega)
          refine ⟨⟨w2, a1, ?_, ?_⟩, ⟨v2, ?_, ?_⟩⟩
          · rw [← a2]; simp [q_up, upd, e]
          · rw [← a3]; simp [q_up, upd, show ¬ 2 * i = 2 * m + 1 by omega, show ¬ 2 * i = 2 * m by omega]
          · rw [← a4]; simp [q_up, upd, e]
          · rw [← a5]; simp [q_up, upd, show ¬ 2 * i = 2 * m by omega, show ¬ 2 * i + 1 = 2 * m by omega, show ¬ 2 * i + 1 = 2 * m + 1 by omega]
      · have m2' : (q_up (q_up (q_up h 42 m (nI w)) 43 m (bi v)) 41 0 (nI (m + 1))) 44 30 = nI m := m2
        rw [m2', show (6 : Int32) = nI 6 from rfl, nI_eq (by omega) (by decide)] at z
        omega
  · rw [m1, show (6 : Int32) = nI 6 from rfl, nI_ltI (by omega) (by decide)] at e3
    refine eX8_seen (vX8_seen_0 (c_isGuest (by omega) hT.2.2.1.2.2 (br_b' (fun z => by rw [e1] at z; cases z) (fun _ => c_inE (br_b' (fun z => by rw [e2] at z; cases z) (fun _ => ⟨fun z => ?_, fun _ => ⟨rfl, hS⟩⟩))))))
    rw [m2, show (6 : Int32) = nI 6 from rfl, nI_eq (by omega) (by decide)] at z
    omega
end O1
