/-! the constructors over the growing heap -/
def FX6 (a a2 : Hp) (c : Nat) : Prop := (∀ q, q < c → a2 q = a q) ∧ a2 c 0 = 8 ∧ a2 c 1 = a c 1 ∧ a2 c 2 = a c 2
theorem kX6_1 {g : QG} {a : Hp} {K : Option Int32 → QH → Prop} (kk : ∀ a2 : Hp, FX6 a a2 1 → K none ([[none, none, none, none, none, none, none, none, none], [none, none, none, some 2, some 3, some 4, some 5, some 6], [], [], [], [], []], a2)) : QC g mX6_init [.ref 1] ([[none, none, none, none, none, none, none, none, none], [none, none, none, none, none, none, none, none]], a) K := by
  refine QC.of (plainFor_of_name (by decide)) (Nat.le_of_ble_eq_true rfl) ?_
  show QW g mX6_init 0 [some (.ref 1)] [] ([[none, none, none, none, none, none, none, none, none], [none, none, none, none, none, none, none, none]], a) 0 0 K
  refine QW.aload_n dX6_init_0 rfl ?_
  refine QW.objInit (by decide) dX6_init_1 loX6_3 ⟨by decide, by decide⟩ (by decide) ?_
  refine QW.aload_n dX6_init_4 rfl ?_
  refine QW.bipush (8 : Int32) rfl dX6_init_5 ?_
  refine QW.putI dX6_init_7 lfX6_9 (Nat.le_of_ble_eq_true rfl) rfl rfl rfl rfl rfl ?_
  show QW g mX6_init 10 _ [] ([[none, none, none, none, none, none, none, none, none], [none, none, none, none, none, none, none, none]], (q_up a 1 0 (8))) _ _ K
  refine QW.aload_n dX6_init_10 rfl ?_
  refine QW.bipush (6 : Int32) rfl dX6_init_11 ?_
  refine QW.newI (n := 2) (N := 6) dX6_init_13 rfl (Nat.le_of_ble_eq_true rfl) rfl ⟨by decide, by decide⟩ (Nat.le_of_ble_eq_true rfl) la_int ⟨(Nat.le_of_ble_eq_true rfl), (Nat.le_of_ble_eq_true rfl)⟩ ?_
  show QW g mX6_init 15 _ [.ref 2, .ref 1] ([[none, none, none, none, none, none, none, none, none], [none, none, none, none, none, none, none, none], []], (q_upA (q_up a 1 0 (8)) 2 (fun _ => 0))) _ _ K
  refine QW.putR dX6_init_15 lfX6_15 (Nat.le_of_ble_eq_true rfl) rfl (Nat.le_of_ble_eq_true rfl) rfl (Nat.le_of_ble_eq_true rfl) (fun _ => rfl) (fun _ => rfl) ⟨rfl, rfl, rfl⟩ ?_
  show QW g mX6_init 18 _ [] ([[none, none, none, none, none, none, none, none, none], [none, none, none, some 2, none, none, none, none], []], (q_upA (q_up a 1 0 (8)) 2 (fun _ => 0))) _ _ K
  refine QW.aload_n dX6_init_18 rfl ?_
  refine QW.bipush (6 : Int32) rfl dX6_init_19 ?_
  refine QW.newI (n := 3) (N := 6) dX6_init_21 rfl (Nat.le_of_ble_eq_true rfl) rfl ⟨by decide, by decide⟩ (Nat.le_of_ble_eq_true rfl) la_int ⟨(Nat.le_of_ble_eq_true rfl), (Nat.le_of_ble_eq_true rfl)⟩ ?_
  show QW g mX6_init 23 _ [.ref 3, .ref 1] ([[none, none, none, none, none, none, none, none, none], [none, none, none, some 2, none, none, none, none], [], []], (q_upA (q_upA (q_up a 1 0 (8)) 2 (fun _ => 0)) 3 (fun _ => 0))) _ _ K
  refine QW.putR dX6_init_23 lfX6_19 (Nat.le_of_ble_eq_true rfl) rfl (Nat.le_of_ble_eq_true rfl) rfl (Nat.le_of_ble_eq_true rfl) (fun _ => rfl) (fun _ => rfl) ⟨rfl, rfl, rfl⟩ ?_
  show QW g mX6_init 26 _ [] ([[none, none, none, none, none, none, none, none, none], [none, none, none, some 2, some 3, none, none, none], [], []], (q_upA (q_upA (q_up a 1 0 (8)) 2 (fun _ => 0)) 3 (fun _ => 0))) _ _ K
  refine QW.aload_n dX6_init_26 rfl ?_
  refine QW.bipush (6 : Int32) rfl dX6_init_27 ?_
  refine QW.newI (n := 4) (N := 6) dX6_init_29 rfl (Nat.le_of_ble_eq_true rfl) rfl ⟨by decide, by decide⟩ (Nat.le_of_ble_eq_true rfl) la_int ⟨(Nat.le_of_ble_eq_true rfl), (Nat.le_of_ble_eq_true rfl)⟩ ?_
  show QW g mX6_init 31 _ [.ref 4, .ref 1] ([[none, none, none, none, none, none, none, none, none], [none, none, none, some 2, some 3, none, none, none], [], [], []], (q_upA (q_upA (q_upA (q_up a 1 0 (8)) 2 (fun _ => 0)) 3 (fun _ => 0)) 4 (fun _ => 0))) _ _ K
  refine QW.putR dX6_init_31 lfX6_22 (Nat.le_of_ble_eq_true rfl) rfl (Nat.le_of_ble_eq_true rfl) rfl (Nat.le_of_ble_eq_true rfl) (fun _ => rfl) (fun _ => rfl) ⟨rfl, rfl, rfl⟩ ?_
  show QW g mX6_init 34 _ [] ([[none, none, none, none, none, none, none, none, none], [none, none, none, some 2, some 3, some 4, none, none], [], [], []], (q_upA (q_upA (q_upA (q_up a 1 0 (8)) 2 (fun _ => 0)) 3 (fun _ => 0)) 4 (fun _ => 0))) _ _ K
  refine QW.aload_n dX6_init_34 rfl ?_
  refine QW.bipush (6 : Int32) rfl dX6_init_35 ?_
  refine QW.newI (n := 5) (N := 6) dX6_init_37 rfl (Nat.le_of_ble_eq_true rfl) rfl ⟨by decide, by decide⟩ (Nat.le_of_ble_eq_true rfl) la_int ⟨(Nat.le_of_ble_eq_true rfl), (Nat.le_of_ble_eq_true rfl)⟩ ?_
  show QW g mX6_init 39 _ [.ref 5, .ref 1] ([[none, none, none, none, none, none, none, none, none], [none, none, none, some 2, some 3, some 4, none, none], [], [], [], []], (q_upA (q_upA (q_upA (q_upA (q_up a 1 0 (8)) 2 (fun _ => 0)) 3 (fun _ => 0)) 4 (fun _ => 0)) 5 (fun _ => 0))) _ _ K
  refine QW.putR dX6_init_39 lfX6_25 (Nat.le_of_ble_eq_true rfl) rfl (Nat.le_of_ble_eq_true rfl) rfl (Nat.le_of_ble_eq_true rfl) (fun _ => rfl) (fun _ => rfl) ⟨rfl, rfl, rfl⟩ ?_
  show QW g mX6_init 42 _ [] ([[none, none, none, none, none, none, none, none, none], [none, none, none, some 2, some 3, some 4, some 5, none], [], [], [], []], (q_upA (q_upA (q_upA (q_upA (q_up a 1 0 (8)) 2 (fun _ => 0)) 3 (fun _ => 0)) 4 (fun _ => 0)) 5 (fun _ => 0))) _ _ K
  refine QW.aload_n dX6_init_42 rfl ?_
  refine QW.bipush (6 : Int32) rfl dX6_init_43 ?_
  refine QW.newI (n := 6) (N := 6) dX6_init_45 rfl (Nat.le_of_ble_eq_true rfl) rfl ⟨by decide, by decide⟩ (Nat.le_of_ble_eq_true rfl) la_int ⟨(Nat.le_of_ble_eq_true rfl), (Nat.le_of_ble_eq_true rfl)⟩ ?_
  show QW g mX6_init 47 _ [.ref 6, .ref 1] ([[none, none, none, none, none, none, none, none, none], [none, none, none, some 2, some 3, some 4, some 5, none], [], [], [], [], []], (q_upA (q_upA (q_upA (q_upA (q_upA (q_up a 1 0 (8)) 2 (fun _ => 0)) 3 (fun _ => 0)) 4 (fun _ => 0)) 5 (fun _ => 0)) 6 (fun _ => 0))) _ _ K
  refine QW.putR dX6_init_47 lfX6_28 (Nat.le_of_ble_eq_true rfl) rfl (Nat.le_of_ble_eq_true rfl) rfl (Nat.le_of_ble_eq_true rfl) (fun _ => rfl) (fun _ => rfl) ⟨rfl, rfl, rfl⟩ ?_
  show QW g mX6_init 50 _ [] ([[none, none, none, none, none, none, none, none, none], [none, none, none, some 2, some 3, some 4, some 5, some 6], [], [], [], [], []], (q_upA (q_upA (q_upA (q_upA (q_upA (q_up a 1 0 (8)) 2 (fun _ => 0)) 3 (fun _ => 0)) 4 (fun _ => 0)) 5 (fun _ => 0)) 6 (fun _ => 0))) _ _ K
  refine QW.ret dX6_init_50 ⟨rfl, rfl⟩ rfl (kk _ ?_)
  refine ⟨fun q hq => ?_, rfl, rfl, rfl⟩
  simp only [q_up, q_upA]
  repeat' rw [if_neg (by omega)]
