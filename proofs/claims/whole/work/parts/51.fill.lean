/-! Arrays.fill on a heap that is not full -/
section Fl
variable {g : QG} {ph : QH} {K : Option Int32 → QH → Prop}
theorem l_fillQ {k n : Nat} {v : Int32} (hk : k < ph.1.length) (hs : shp.getD k (9, 0) = (0, n)) (hn : n < 1000) (kk : ∀ a2 : Hp, (∀ q, q ≠ k → a2 q = ph.2 q) → (∀ j, j < n → a2 k j = v) → K none (ph.1, a2)) : ∀ (d i : Nat) (a : Hp), n - i = d → i ≤ n → (∀ q, q ≠ k → a q = ph.2 q) → (∀ j, j < i → a k j = v) → QW g mJ7_fill_53178 5 [some (.ref k), some (.int v), some (.int (nI i)), some (.int (nI n))] [] (ph.1, a) 0 0 K := by
  intro d
  induction d with
  | zero =>
    intro i a hd hi h1 h2
    have ei : i = n := by omega
    subst ei
    refine QW.iload_n dJ7_fill_53178_5 rfl (QW.iload_n dJ7_fill_53178_6 rfl (QW.icmp_ge 20 dJ7_fill_53178_7 rfl (fun _ => ?_) (fun z => absurd (nI_le (Nat.le_refl _) (by omega)) z)))
    exact QW.ret dJ7_fill_53178_20 ⟨rfl, rfl⟩ rfl (kk a h1 h2)
  | succ d ih =>
    intro i a hd hi h1 h2
    refine QW.iload_n dJ7_fill_53178_5 rfl (QW.iload_n dJ7_fill_53178_6 rfl (QW.icmp_ge 20 dJ7_fill_53178_7 rfl (fun z => ?_) (fun _ => ?_)))
    · rw [nI_leI (by omega) (by omega)] at z; omega
    · refine QW.aload_n dJ7_fill_53178_10 rfl (QW.iload_n dJ7_fill_53178_11 rfl (QW.iload_n dJ7_fill_53178_12 rfl ?_))
      refine QW.iast (k := k) (n := n) dJ7_fill_53178_13 hk hs (vp_in_nI (by omega) (by omega)) ?_
      refine QW.iinc (nI (i + 1)) [some (.ref k), some (.int v), some (.int (nI (i + 1))), some (.int (nI n))] dJ7_fill_53178_14 rfl (nI_1 i) (by decide) rfl rfl (QW.goto 5 dJ7_fill_53178_17 rfl ?_)
      refine ih (i + 1) _ (by omega) (by omega) (fun q hq => ?_) (fun j hj => ?_)
      · show q_up a k _ v q = _
        rw [q_up_ne hq]; exact h1 q hq
      · show q_up a k _ v k j = _
        rw [ix_nI (by omega)]
        by_cases ej : j = i
        · subst ej; rw [up_at]
        · rw [up_row _ _ _ _ ej]; exact h2 j (by omega)
theorem q_fill {k n : Nat} {v : Int32} (hk : k < ph.1.length) (hs : shp.getD k (9, 0) = (0, n)) (hn : n < 1000) (kk : ∀ a2 : Hp, (∀ q, q ≠ k → a2 q = ph.2 q) → (∀ j, j < n → a2 k j = v) → K none (ph.1, a2)) : QC g mJ7_fill_53178 [.ref k, .int v] ph K := by
  refine QC.of (plainFor_of_name (by decide)) (Nat.le_of_ble_eq_true rfl) ?_
  show QW g mJ7_fill_53178 0 [some (.ref k), some (.int v), none, none] [] ph 0 0 K
  refine QW.iconst (0 : Int32) rfl dJ7_fill_53178_0 (QW.istore_n [some (.ref k), some (.int v), some (.int (0 : Int32)), none] dJ7_fill_53178_1 (by decide) rfl rfl (QW.aload_n dJ7_fill_53178_2 rfl ?_))
  refine QW.alen (v := nI n) dJ7_fill_53178_3 hk hs rfl ?_
  refine QW.istore_n [some (.ref k), some (.int v), some (.int (0 : Int32)), some (.int (nI n))] dJ7_fill_53178_4 (by decide) rfl rfl ?_
  exact l_fillQ (g := g) hk hs hn kk n 0 ph.2 rfl (Nat.zero_le _) (fun _ _ => rfl) (fun j hj => by omega)
end Fl
