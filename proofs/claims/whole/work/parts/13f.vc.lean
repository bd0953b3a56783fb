theorem vX5_readNumber_0 {g : QG} {K : Int32 → Hp → Prop} {h : Hp} {a1 a2 : Int32} (vc : FV g mX5_nextToken [.ref 7] h (fun h1 => ((h1 7 1) ≤ (h1 7 4) → K (0 : Int32) h1) ∧ (¬ (h1 7 1) ≤ (h1 7 4) → vp_in (h1 7 4) 200 ∧ FI g mX5_isDigit [.int (h1 8 ((h1 7 4).toNatClampNeg))] h1 (fun x2 h2 => (x2 = 0 → K (0 : Int32) h2) ∧ (¬ x2 = 0 → (((h2 7 5) - (h2 7 4)) ≤ (2 : Int32) → FW g mX5_readNumber 55 [some (.ref 7), some (.int a1), some (.int a2), some (.int (h2 7 4))] [] (q_up h2 7 6 (0 : Int32)) (q_RI K)) ∧ (¬ ((h2 7 5) - (h2 7 4)) ≤ (2 : Int32) → K (0 : Int32) h2)))))) : FW g mX5_readNumber 0 [some (.ref 7), some (.int a1), some (.int a2), none] [] h (q_RI K) := by
  refine QW.aload_n dX5_readNumber_0 rfl ?_
  refine FW.callVv [] [] rfl dX5_readNumber_1 lmX5_46 sC_7 rfl ⟨Nat.le_of_ble_eq_true rfl, Nat.le_of_ble_eq_true rfl⟩ ⟨rfl, rfl⟩ (Nat.le_of_ble_eq_true rfl) (FV.mono (fun h1 vc => ?_) vc)
  refine QW.aload_n dX5_readNumber_4 rfl ?_
  refine FW.getI (h1 7 4) dX5_readNumber_5 lfX5_43 sI_7_4 rfl ?_
  refine QW.aload_n dX5_readNumber_8 rfl ?_
  refine FW.getI (h1 7 1) dX5_readNumber_9 lfX5_25 sI_7_1 rfl ?_
  refine QW.icmp_ge 43 dX5_readNumber_12 rfl (fun hc => ?_) (fun hc => ?_)
  · replace vc := vc.1 hc
    refine QW.iconst (0 : Int32) rfl dX5_readNumber_43 ?_
    exact FW.retZ (Or.inl rfl) dX5_readNumber_44 rfl vc
  · replace vc := vc.2 hc
    refine QW.aload_n dX5_readNumber_15 rfl ?_
    refine FW.getR dX5_readNumber_16 lfX5_9 sR_7_0 ?_
    refine QW.aload_n dX5_readNumber_19 rfl ?_
    refine FW.getI (h1 7 4) dX5_readNumber_20 lfX5_43 sI_7_4 rfl ?_
    refine FW.iald (h1 8 ((h1 7 4).toNatClampNeg)) dX5_readNumber_23 sA_8 vc.1 rfl ?_
    replace vc := vc.2
    refine FW.callSi [.int (h1 8 ((h1 7 4).toNatClampNeg))] [] rfl dX5_readNumber_24 lmX5_53 rfl ⟨Nat.le_of_ble_eq_true rfl, Nat.le_of_ble_eq_true rfl⟩ ⟨rfl, rfl⟩ (Nat.le_of_ble_eq_true rfl) (FI.mono (fun x2 h2 vc => ?_) vc)
    refine QW.if_eq 43 dX5_readNumber_27 rfl (fun hc => ?_) (fun hc => ?_)
    · replace vc := vc.1 hc
      refine QW.iconst (0 : Int32) rfl dX5_readNumber_43 ?_
      exact FW.retZ (Or.inl rfl) dX5_readNumber_44 rfl vc
    · replace vc := vc.2 hc
      refine QW.aload_n dX5_readNumber_30 rfl ?_
      refine FW.getI (h2 7 5) dX5_readNumber_31 lfX5_33 sI_7_5 rfl ?_
      refine QW.aload_n dX5_readNumber_34 rfl ?_
      refine FW.getI (h2 7 4) dX5_readNumber_35 lfX5_43 sI_7_4 rfl ?_
      refine QW.isub dX5_readNumber_38 ?_
      refine QW.iconst (2 : Int32) rfl dX5_readNumber_39 ?_
      refine QW.icmp_le 45 dX5_readNumber_40 rfl (fun hc => ?_) (fun hc => ?_)
      · replace vc := vc.1 hc
        refine QW.aload_n dX5_readNumber_45 rfl ?_
        refine QW.iconst (0 : Int32) rfl dX5_readNumber_46 ?_
        refine FW.putI dX5_readNumber_47 lfX5_105 sP_7_6 ?_
        refine QW.aload_n dX5_readNumber_50 rfl ?_
        refine FW.getI (h2 7 4) dX5_readNumber_51 lfX5_43 sI_7_4 rfl ?_
        refine QW.istore_n [some (.ref 7), some (.int a1), some (.int a2), some (.int (h2 7 4))] dX5_readNumber_54 (by decide) rfl rfl ?_
        exact vc
      · replace vc := vc.2 hc
        refine QW.iconst (0 : Int32) rfl dX5_readNumber_43 ?_
        exact FW.retZ (Or.inl rfl) dX5_readNumber_44 rfl vc
theorem vX5_readNumber_55 {g : QG} {K : Int32 → Hp → Prop} {h : Hp} {a1 a2 a3 : Int32} (vc : ((h 7 5) ≤ a3 → ((h 7 6) < a1 → K (0 : Int32) h) ∧ (¬ (h 7 6) < a1 → (a2 < (h 7 6) → K (0 : Int32) h) ∧ (¬ a2 < (h 7 6) → K (1 : Int32) h))) ∧ (¬ (h 7 5) ≤ a3 → vp_in a3 200 ∧ FW g mX5_readNumber 55 [some (.ref 7), some (.int a1), some (.int a2), some (.int (a3 + (1 : Int32)))] [] (q_up h 7 6 ((((h 7 6) * (10 : Int32)) + (h 8 a3.toNatClampNeg)) - (48 : Int32))) (q_RI K))) : FW g mX5_readNumber 55 [some (.ref 7), some (.int a1), some (.int a2), some (.int a3)] [] h (q_RI K) := by
  refine QW.iload_n dX5_readNumber_55 rfl ?_
  refine QW.aload_n dX5_readNumber_56 rfl ?_
  refine FW.getI (h 7 5) dX5_readNumber_57 lfX5_33 sI_7_5 rfl ?_
  refine QW.icmp_ge 90 dX5_readNumber_60 rfl (fun hc => ?_) (fun hc => ?_)
  · replace vc := vc.1 hc
    refine QW.aload_n dX5_readNumber_90 rfl ?_
    refine FW.getI (h 7 6) dX5_readNumber_91 lfX5_105 sI_7_6 rfl ?_
    refine QW.iload_n dX5_readNumber_94 rfl ?_
    refine QW.icmp_lt 110 dX5_readNumber_95 rfl (fun hc => ?_) (fun hc => ?_)
    · replace vc := vc.1 hc
      refine QW.iconst (0 : Int32) rfl dX5_readNumber_110 ?_
      exact FW.retZ (Or.inl rfl) dX5_readNumber_111 rfl vc
    · replace vc := vc.2 hc
      refine QW.aload_n dX5_readNumber_98 rfl ?_
      refine FW.getI (h 7 6) dX5_readNumber_99 lfX5_105 sI_7_6 rfl ?_
      refine QW.iload_n dX5_readNumber_102 rfl ?_
      refine QW.icmp_gt 110 dX5_readNumber_103 rfl (fun hc => ?_) (fun hc => ?_)
      · replace vc := vc.1 hc
        refine QW.iconst (0 : Int32) rfl dX5_readNumber_110 ?_
        exact FW.retZ (Or.inl rfl) dX5_readNumber_111 rfl vc
      · replace vc := vc.2 hc
        refine QW.iconst (1 : Int32) rfl dX5_readNumber_106 ?_
        refine QW.goto 111 dX5_readNumber_107 rfl ?_
        exact FW.retZ (Or.inr rfl) dX5_readNumber_111 rfl vc
  · replace vc := vc.2 hc
    refine QW.aload_n dX5_readNumber_63 rfl ?_
    refine QW.aload_n dX5_readNumber_64 rfl ?_
    refine FW.getI (h 7 6) dX5_readNumber_65 lfX5_105 sI_7_6 rfl ?_
    refine QW.bipush (10 : Int32) rfl dX5_readNumber_68 ?_
    refine QW.imul dX5_readNumber_70 ?_
    refine QW.aload_n dX5_readNumber_71 rfl ?_
    refine FW.getR dX5_readNumber_72 lfX5_9 sR_7_0 ?_
    refine QW.iload_n dX5_readNumber_75 rfl ?_
    refine FW.iald (h 8 a3.toNatClampNeg) dX5_readNumber_76 sA_8 vc.1 rfl ?_
    replace vc := vc.2
    refine QW.iadd dX5_readNumber_77 ?_
    refine QW.bipush (48 : Int32) rfl dX5_readNumber_78 ?_
    refine QW.isub dX5_readNumber_80 ?_
    refine FW.putI dX5_readNumber_81 lfX5_105 sP_7_6 ?_
    refine QW.iinc (a3 + (1 : Int32)) [some (.ref 7), some (.int a1), some (.int a2), some (.int (a3 + (1 : Int32)))] dX5_readNumber_84 rfl rfl (by decide) rfl rfl ?_
    refine QW.goto 55 dX5_readNumber_87 rfl ?_
    exact vc
theorem vX7_as_0 {g : QG} {K : Int32 → Hp → Prop} {h : Hp} {a1 a2 : Int32} (vc : FI g mX6_hasGuest [.ref 1, .int a1] h (fun x1 h1 => (¬ x1 = 0 → (a2 < 0 → K (-3 : Int32) h1) ∧ (¬ a2 < 0 → (a2 ≤ (4 : Int32) → FI g mX6_isA [.ref 1, .int a1, .int a2] h1 (fun x2 h2 => (¬ x2 = 0 → vp_in a1 6 ∧ FI g mX6_nearestChair [.ref 1, .int (h2 27 a1.toNatClampNeg)] h2 (fun x3 h3 => (¬ x3 = (-1 : Int32) → FI g mX6_ease [.ref 1, .int a1] h3 (fun x4 h4 => K (((100 : Int32) + x3) - x4) h4)) ∧ (x3 = (-1 : Int32) → K (-1 : Int32) h3))) ∧ (x2 = 0 → K (-4 : Int32) h2))) ∧ (¬ a2 ≤ (4 : Int32) → K (-3 : Int32) h1))) ∧ (x1 = 0 → K (-2 : Int32) h1))) : FW g mX7_as 0 [some (.ref 0), some (.int a1), some (.int a2), none] [] h (q_RI K) := by
  refine QW.aload_n dX7_as_0 rfl ?_
  refine FW.getR dX7_as_1 lfX7_10 sR_0_0 ?_
  refine QW.iload_n dX7_as_4 rfl ?_
  refine FW.callVi [.int a1] [] rfl dX7_as_5 lmX7_121 sC_1 rfl ⟨Nat.le_of_ble_eq_true rfl, Nat.le_of_ble_eq_true rfl⟩ ⟨rfl, rfl⟩ (Nat.le_of_ble_eq_true rfl) (FI.mono (fun x1 h1 vc => ?_) vc)
  refine QW.if_ne 14 dX7_as_8 rfl (fun hc => ?_) (fun hc => ?_)
  · replace vc := vc.1 hc
    refine QW.iload_n dX7_as_14 rfl ?_
    refine QW.if_lt 23 dX7_as_15 rfl (fun hc => ?_) (fun hc => ?_)
    · replace vc := vc.1 hc
      refine QW.bipush (-3 : Int32) rfl dX7_as_23 ?_
      exact FW.ret dX7_as_25 rfl vc
    · replace vc := vc.2 hc
      refine QW.iload_n dX7_as_18 rfl ?_
      refine QW.iconst (4 : Int32) rfl dX7_as_19 ?_
      refine QW.icmp_le 26 dX7_as_20 rfl (fun hc => ?_) (fun hc => ?_)
      · replace vc := vc.1 hc
        refine QW.aload_n dX7_as_26 rfl ?_
        refine FW.getR dX7_as_27 lfX7_10 sR_0_0 ?_
        refine QW.iload_n dX7_as_30 rfl ?_
        refine QW.iload_n dX7_as_31 rfl ?_
        refine FW.callVi [.int a1, .int a2] [] rfl dX7_as_32 lmX7_145 sC_1 rfl ⟨Nat.le_of_ble_eq_true rfl, Nat.le_of_ble_eq_true rfl⟩ ⟨rfl, rfl⟩ (Nat.le_of_ble_eq_true rfl) (FI.mono (fun x2 h2 vc => ?_) vc)
        refine QW.if_ne 41 dX7_as_35 rfl (fun hc => ?_) (fun hc => ?_)
        · replace vc := vc.1 hc
          refine QW.aload_n dX7_as_41 rfl ?_
          refine FW.getR dX7_as_42 lfX7_10 sR_0_0 ?_
          refine QW.aload_n dX7_as_45 rfl ?_
          refine FW.getR dX7_as_46 lfX7_53 sR_0_5 ?_
          refine FW.getR dX7_as_49 lfX7_127 sR_26_4 ?_
          refine QW.iload_n dX7_as_52 rfl ?_
          refine FW.iald (h2 27 a1.toNatClampNeg) dX7_as_53 sA_27 vc.1 rfl ?_
          replace vc := vc.2
          refine FW.callVi [.int (h2 27 a1.toNatClampNeg)] [] rfl dX7_as_54 lmX7_149 sC_1 rfl ⟨Nat.le_of_ble_eq_true rfl, Nat.le_of_ble_eq_true rfl⟩ ⟨rfl, rfl⟩ (Nat.le_of_ble_eq_true rfl) (FI.mono (fun x3 h3 vc => ?_) vc)
          refine QW.istore_n [some (.ref 0), some (.int a1), some (.int a2), some (.int x3)] dX7_as_57 (by decide) rfl rfl ?_
          refine QW.iload_n dX7_as_58 rfl ?_
          refine QW.iconst (-1 : Int32) rfl dX7_as_59 ?_
          refine QW.icmp_ne 67 dX7_as_60 rfl (fun hc => ?_) (fun hc => ?_)
          · replace vc := vc.1 hc
            refine QW.bipush (100 : Int32) rfl dX7_as_67 ?_
            refine QW.iload_n dX7_as_69 rfl ?_
            refine QW.iadd dX7_as_70 ?_
            refine QW.aload_n dX7_as_71 rfl ?_
            refine FW.getR dX7_as_72 lfX7_10 sR_0_0 ?_
            refine QW.iload_n dX7_as_75 rfl ?_
            refine FW.callVi [.int a1] [.int ((100 : Int32) + x3)] rfl dX7_as_76 lmX7_153 sC_1 rfl ⟨Nat.le_of_ble_eq_true rfl, Nat.le_of_ble_eq_true rfl⟩ ⟨rfl, rfl⟩ (Nat.le_of_ble_eq_true rfl) (FI.mono (fun x4 h4 vc => ?_) vc)
            refine QW.isub dX7_as_79 ?_
            exact FW.ret dX7_as_80 rfl vc
          · replace vc := vc.2 hc
            refine QW.iconst (-1 : Int32) rfl dX7_as_63 ?_
            refine QW.goto 80 dX7_as_64 rfl ?_
            exact FW.ret dX7_as_80 rfl vc
        · replace vc := vc.2 hc
          refine QW.bipush (-4 : Int32) rfl dX7_as_38 ?_
          exact FW.ret dX7_as_40 rfl vc
      · replace vc := vc.2 hc
        refine QW.bipush (-3 : Int32) rfl dX7_as_23 ?_
        exact FW.ret dX7_as_25 rfl vc
  · replace vc := vc.2 hc
    refine QW.bipush (-2 : Int32) rfl dX7_as_11 ?_
    exact FW.ret dX7_as_13 rfl vc
theorem vX7_walk_0 {g : QG} {K : Int32 → Hp → Prop} {h : Hp} {a1 : Int32} (vc : (a1 < (1 : Int32) → K (-3 : Int32) h) ∧ (¬ a1 < (1 : Int32) → (a1 ≤ (99 : Int32) → (¬ (h 26 1) = 0 → (((h 26 0) + a1) ≤ (9999 : Int32) → FV g mX0_goOn [.ref 26, .ref 1, .int a1] h (fun h1 => K (h1 26 0) h1)) ∧ (¬ ((h 26 0) + a1) ≤ (9999 : Int32) → K (-5 : Int32) h)) ∧ ((h 26 1) = 0 → K (-4 : Int32) h)) ∧ (¬ a1 ≤ (99 : Int32) → K (-3 : Int32) h))) : FW g mX7_walk 0 [some (.ref 0), some (.int a1)] [] h (q_RI K) := by
  refine QW.iload_n dX7_walk_0 rfl ?_
  refine QW.iconst (1 : Int32) rfl dX7_walk_1 ?_
  refine QW.icmp_lt 11 dX7_walk_2 rfl (fun hc => ?_) (fun hc => ?_)
  · replace vc := vc.1 hc
    refine QW.bipush (-3 : Int32) rfl dX7_walk_11 ?_
    exact FW.ret dX7_walk_13 rfl vc
  · replace vc := vc.2 hc
    refine QW.iload_n dX7_walk_5 rfl ?_
    refine QW.bipush (99 : Int32) rfl dX7_walk_6 ?_
    refine QW.icmp_le 14 dX7_walk_8 rfl (fun hc => ?_) (fun hc => ?_)
    · replace vc := vc.1 hc
      refine QW.aload_n dX7_walk_14 rfl ?_
      refine FW.getR dX7_walk_15 lfX7_53 sR_0_5 ?_
      refine FW.getI (h 26 1) dX7_walk_18 lfX7_156 sI_26_1 rfl ?_
      refine QW.if_ne 27 dX7_walk_21 rfl (fun hc => ?_) (fun hc => ?_)
      · replace vc := vc.1 hc
        refine QW.aload_n dX7_walk_27 rfl ?_
        refine FW.getR dX7_walk_28 lfX7_53 sR_0_5 ?_
        refine FW.getI (h 26 0) dX7_walk_31 lfX7_159 sI_26_0 rfl ?_
        refine QW.iload_n dX7_walk_34 rfl ?_
        refine QW.iadd dX7_walk_35 ?_
        refine QW.sipush (9999 : Int32) rfl dX7_walk_36 ?_
        refine QW.icmp_le 45 dX7_walk_39 rfl (fun hc => ?_) (fun hc => ?_)
        · replace vc := vc.1 hc
          refine QW.aload_n dX7_walk_45 rfl ?_
          refine FW.getR dX7_walk_46 lfX7_53 sR_0_5 ?_
          refine QW.aload_n dX7_walk_49 rfl ?_
          refine FW.getR dX7_walk_50 lfX7_10 sR_0_0 ?_
          refine QW.iload_n dX7_walk_53 rfl ?_
          refine FW.callVv [.ref 1, .int a1] [] rfl dX7_walk_54 lmX7_162 sC_26 rfl ⟨Nat.le_of_ble_eq_true rfl, Nat.le_of_ble_eq_true rfl⟩ ⟨rfl, rfl⟩ (Nat.le_of_ble_eq_true rfl) (FV.mono (fun h1 vc => ?_) vc)
          refine QW.aload_n dX7_walk_57 rfl ?_
          refine FW.getR dX7_walk_58 lfX7_53 sR_0_5 ?_
          refine FW.getI (h1 26 0) dX7_walk_61 lfX7_159 sI_26_0 rfl ?_
          exact FW.ret dX7_walk_64 rfl vc
        · replace vc := vc.2 hc
          refine QW.bipush (-5 : Int32) rfl dX7_walk_42 ?_
          exact FW.ret dX7_walk_44 rfl vc
      · replace vc := vc.2 hc
        refine QW.bipush (-4 : Int32) rfl dX7_walk_24 ?_
        exact FW.ret dX7_walk_26 rfl vc
    · replace vc := vc.2 hc
      refine QW.bipush (-3 : Int32) rfl dX7_walk_11 ?_
      exact FW.ret dX7_walk_13 rfl vc
theorem vX3_seatAll_0 {g : QG} {K : Int32 → Hp → Prop} {h : Hp} {a1 : Int32} (vc : FW g mX3_seatAll 4 [some (.ref 16), none, some (.int a1), some (.int (-1 : Int32)), none, none] [] h (q_RI K)) : FW g mX3_seatAll 0 [some (.ref 16), some (.int a1), none, none, none, none] [] h (q_RI K) := by
  refine QW.iload_n dX3_seatAll_0 rfl ?_
  refine QW.istore_n [some (.ref 16), some (.int a1), some (.int a1), none, none, none] dX3_seatAll_1 (by decide) rfl rfl ?_
  refine QW.iconst (-1 : Int32) rfl dX3_seatAll_2 ?_
  refine QW.istore_n [some (.ref 16), some (.int a1), some (.int a1), some (.int (-1 : Int32)), none, none] dX3_seatAll_3 (by decide) rfl rfl ?_
  exact QW.sub (by exact ⟨rfl, ⟨rfl, ⟨rfl, trivial⟩⟩⟩) vc
theorem vX3_seatAll_4 {g : QG} {K : Int32 → Hp → Prop} {h : Hp} {a2 a3 : Int32} (vc : FI g mX6_farthest [.ref 1] h (fun x1 h1 => (x1 < a3 → K a2 h1) ∧ (¬ x1 < a3 → ((h1 16 5) = 0 → K a2 h1) ∧ (¬ (h1 16 5) = 0 → (a2 = 0 → K a2 h1) ∧ (¬ a2 = 0 → FW g mX3_seatAll 29 [some (.ref 16), none, some (.int a2), some (.int a3), some (.int (0 : Int32)), none] [] h1 (q_RI K)))))) : FW g mX3_seatAll 4 [some (.ref 16), none, some (.int a2), some (.int a3), none, none] [] h (q_RI K) := by
  refine QW.iload_n dX3_seatAll_4 rfl ?_
  refine QW.aload_n dX3_seatAll_5 rfl ?_
  refine FW.getR dX3_seatAll_6 lfX3_21 sR_16_0 ?_
  refine FW.callVi [] [.int a3] rfl dX3_seatAll_9 lmX3_48 sC_1 rfl ⟨Nat.le_of_ble_eq_true rfl, Nat.le_of_ble_eq_true rfl⟩ ⟨rfl, rfl⟩ (Nat.le_of_ble_eq_true rfl) (FI.mono (fun x1 h1 vc => ?_) vc)
  refine QW.icmp_gt 120 dX3_seatAll_12 rfl (fun hc => ?_) (fun hc => ?_)
  · replace vc := vc.1 hc
    refine QW.iload_n dX3_seatAll_120 rfl ?_
    exact FW.ret dX3_seatAll_121 rfl vc
  · replace vc := vc.2 hc
    refine QW.aload_n dX3_seatAll_15 rfl ?_
    refine FW.getI (h1 16 5) dX3_seatAll_16 lfX3_35 sI_16_5 rfl ?_
    refine QW.if_eq 120 dX3_seatAll_19 rfl (fun hc => ?_) (fun hc => ?_)
    · replace vc := vc.1 hc
      refine QW.iload_n dX3_seatAll_120 rfl ?_
      exact FW.ret dX3_seatAll_121 rfl vc
    · replace vc := vc.2 hc
      refine QW.iload_n dX3_seatAll_22 rfl ?_
      refine QW.if_eq 120 dX3_seatAll_23 rfl (fun hc => ?_) (fun hc => ?_)
      · replace vc := vc.1 hc
        refine QW.iload_n dX3_seatAll_120 rfl ?_
        exact FW.ret dX3_seatAll_121 rfl vc
      · replace vc := vc.2 hc
        refine QW.iconst (0 : Int32) rfl dX3_seatAll_26 ?_
        refine QW.istore [some (.ref 16), none, some (.int a2), some (.int a3), some (.int (0 : Int32)), none] dX3_seatAll_27 (by decide) rfl rfl ?_
        exact vc
theorem vX3_seatAll_29 {g : QG} {K : Int32 → Hp → Prop} {h : Hp} {a2 a3 a4 : Int32} (vc : ((h 1 2) ≤ a4 → FW g mX3_seatAll 4 [some (.ref 16), none, some (.int a2), some (.int (a3 + (1 : Int32))), none, none] [] h (q_RI K)) ∧ (¬ (h 1 2) ≤ a4 → FI g mX7_holds [.int a2, .int a4] h (fun x1 h1 => (x1 = 0 → FW g mX3_seatAll 83 [some (.ref 16), none, some (.int a2), some (.int a3), some (.int a4), none] [.int (-1 : Int32)] h1 (q_RI K)) ∧ (¬ x1 = 0 → vp_in a4 6 ∧ FI g mX6_ease [.ref 1, .int a4] h1 (fun x2 h2 => FI g mX6_leastAt [.ref 1, .int (h1 17 a4.toNatClampNeg), .int (a3 + x2), .int (h2 16 5)] h2 (fun x3 h3 => FW g mX3_seatAll 83 [some (.ref 16), none, some (.int a2), some (.int a3), some (.int a4), none] [.int x3] h3 (q_RI K))))))) : FW g mX3_seatAll 29 [some (.ref 16), none, some (.int a2), some (.int a3), some (.int a4), none] [] h (q_RI K) := by
  refine QW.iload dX3_seatAll_29 rfl ?_
  refine QW.aload_n dX3_seatAll_31 rfl ?_
  refine FW.getR dX3_seatAll_32 lfX3_21 sR_16_0 ?_
  refine FW.getI (h 1 2) dX3_seatAll_35 lfX3_52 sI_1_2 rfl ?_
  refine QW.icmp_ge 114 dX3_seatAll_38 rfl (fun hc => ?_) (fun hc => ?_)
  · replace vc := vc.1 hc
    refine QW.iinc (a3 + (1 : Int32)) [some (.ref 16), none, some (.int a2), some (.int (a3 + (1 : Int32))), some (.int a4), none] dX3_seatAll_114 rfl rfl (by decide) rfl rfl ?_
    refine QW.goto 4 dX3_seatAll_117 rfl ?_
    exact QW.sub (by exact ⟨rfl, ⟨rfl, ⟨rfl, trivial⟩⟩⟩) vc
  · replace vc := vc.2 hc
    refine QW.iload_n dX3_seatAll_41 rfl ?_
    refine QW.iload dX3_seatAll_42 rfl ?_
    refine FW.callNi [.int a2, .int a4] [] rfl dX3_seatAll_44 lmX3_55 rfl ⟨Nat.le_of_ble_eq_true rfl, Nat.le_of_ble_eq_true rfl⟩ ⟨rfl, rfl⟩ (Nat.le_of_ble_eq_true rfl) (FI.mono (fun x1 h1 vc => ?_) vc)
    refine QW.if_eq 82 dX3_seatAll_47 rfl (fun hc => ?_) (fun hc => ?_)
    · replace vc := vc.1 hc
      refine QW.iconst (-1 : Int32) rfl dX3_seatAll_82 ?_
      exact vc
    · replace vc := vc.2 hc
      refine QW.aload_n dX3_seatAll_50 rfl ?_
      refine FW.getR dX3_seatAll_51 lfX3_21 sR_16_0 ?_
      refine QW.aload_n dX3_seatAll_54 rfl ?_
      refine FW.getR dX3_seatAll_55 lfX3_9 sR_16_1 ?_
      refine QW.iload dX3_seatAll_58 rfl ?_
      refine FW.iald (h1 17 a4.toNatClampNeg) dX3_seatAll_60 sA_17 vc.1 rfl ?_
      replace vc := vc.2
      refine QW.iload_n dX3_seatAll_61 rfl ?_
      refine QW.aload_n dX3_seatAll_62 rfl ?_
      refine FW.getR dX3_seatAll_63 lfX3_21 sR_16_0 ?_
      refine QW.iload dX3_seatAll_66 rfl ?_
      refine FW.callVi [.int a4] [.int a3, .int (h1 17 a4.toNatClampNeg), .ref 1] rfl dX3_seatAll_68 lmX3_59 sC_1 rfl ⟨Nat.le_of_ble_eq_true rfl, Nat.le_of_ble_eq_true rfl⟩ ⟨rfl, rfl⟩ (Nat.le_of_ble_eq_true rfl) (FI.mono (fun x2 h2 vc => ?_) vc)
      refine QW.iadd dX3_seatAll_71 ?_
      refine QW.aload_n dX3_seatAll_72 rfl ?_
      refine FW.getI (h2 16 5) dX3_seatAll_73 lfX3_35 sI_16_5 rfl ?_
      refine FW.callVi [.int (h1 17 a4.toNatClampNeg), .int (a3 + x2), .int (h2 16 5)] [] rfl dX3_seatAll_76 lmX3_62 sC_1 rfl ⟨Nat.le_of_ble_eq_true rfl, Nat.le_of_ble_eq_true rfl⟩ ⟨rfl, rfl⟩ (Nat.le_of_ble_eq_true rfl) (FI.mono (fun x3 h3 vc => ?_) vc)
      refine QW.goto 83 dX3_seatAll_79 rfl ?_
      exact vc
theorem vX3_seatAll_83 {g : QG} {K : Int32 → Hp → Prop} {h : Hp} {a2 a3 a4 s0 : Int32} (vc : (s0 = (-1 : Int32) → FW g mX3_seatAll 29 [some (.ref 16), none, some (.int a2), some (.int a3), some (.int (a4 + (1 : Int32))), none] [] h (q_RI K)) ∧ (¬ s0 = (-1 : Int32) → FV g mX3_seatOne [.ref 16, .int a4, .int s0] h (fun h1 => FW g mX3_seatAll 29 [some (.ref 16), none, some (.int (a2 &&& (((1 : Int32) <<< (a4 &&& 31)) ^^^ (-1 : Int32)))), some (.int a3), some (.int (a4 + (1 : Int32))), none] [] h1 (q_RI K)))) : FW g mX3_seatAll 83 [some (.ref 16), none, some (.int a2), some (.int a3), some (.int a4), none] [.int s0] h (q_RI K) := by
  refine QW.istore [some (.ref 16), none, some (.int a2), some (.int a3), some (.int a4), some (.int s0)] dX3_seatAll_83 (by decide) rfl rfl ?_
  refine QW.iload dX3_seatAll_85 rfl ?_
  refine QW.iconst (-1 : Int32) rfl dX3_seatAll_87 ?_
  refine QW.icmp_eq 108 dX3_seatAll_88 rfl (fun hc => ?_) (fun hc => ?_)
  · replace vc := vc.1 hc
    refine QW.iinc (a4 + (1 : Int32)) [some (.ref 16), none, some (.int a2), some (.int a3), some (.int (a4 + (1 : Int32))), some (.int s0)] dX3_seatAll_108 rfl rfl (by decide) rfl rfl ?_
    refine QW.goto 29 dX3_seatAll_111 rfl ?_
    exact QW.sub (by exact ⟨rfl, ⟨rfl, ⟨rfl, ⟨rfl, trivial⟩⟩⟩⟩) vc
  · replace vc := vc.2 hc
    refine QW.aload_n dX3_seatAll_91 rfl ?_
    refine QW.iload dX3_seatAll_92 rfl ?_
    refine QW.iload dX3_seatAll_94 rfl ?_
    refine FW.callVv [.int a4, .int s0] [] rfl dX3_seatAll_96 lmX3_66 sC_16 rfl ⟨Nat.le_of_ble_eq_true rfl, Nat.le_of_ble_eq_true rfl⟩ ⟨rfl, rfl⟩ (Nat.le_of_ble_eq_true rfl) (FV.mono (fun h1 vc => ?_) vc)
    refine QW.iload_n dX3_seatAll_99 rfl ?_
    refine QW.iconst (1 : Int32) rfl dX3_seatAll_100 ?_
    refine QW.iload dX3_seatAll_101 rfl ?_
    refine QW.ishl dX3_seatAll_103 ?_
    refine QW.iconst (-1 : Int32) rfl dX3_seatAll_104 ?_
    refine QW.ixor dX3_seatAll_105 ?_
    refine QW.iand dX3_seatAll_106 ?_
    refine QW.istore_n [some (.ref 16), none, some (.int (a2 &&& (((1 : Int32) <<< (a4 &&& 31)) ^^^ (-1 : Int32)))), some (.int a3), some (.int a4), some (.int s0)] dX3_seatAll_107 (by decide) rfl rfl ?_
    refine QW.iinc (a4 + (1 : Int32)) [some (.ref 16), none, some (.int (a2 &&& (((1 : Int32) <<< (a4 &&& 31)) ^^^ (-1 : Int32)))), some (.int a3), some (.int (a4 + (1 : Int32))), some (.int s0)] dX3_seatAll_108 rfl rfl (by decide) rfl rfl ?_
    refine QW.goto 29 dX3_seatAll_111 rfl ?_
    exact QW.sub (by exact ⟨rfl, ⟨rfl, ⟨rfl, ⟨rfl, trivial⟩⟩⟩⟩) vc
theorem vX8_seat_0 {g : QG} {K : Hp → Prop} {h : Hp} {a1 : Int32} (vc : FI g mX8_findsTwo [.ref 44, .int a1] h (fun x1 h1 => (x1 = 0 → K h1) ∧ (¬ x1 = 0 → vp_in (h1 44 24) 6 ∧ vp_in (h1 44 24) 6 ∧ (¬ (h1 49 ((h1 44 24).toNatClampNeg)) = (3 : Int32) → FW g mX8_seat 0 [some (.ref 44), some (.int a1)] [] (q_up (q_up h1 55 ((h1 44 24).toNatClampNeg) (h1 44 25)) 44 23 ((h1 44 23) &&& (((1 : Int32) <<< ((h1 44 25) &&& 31)) ^^^ (-1 : Int32)))) (q_RV K)) ∧ ((h1 49 ((h1 44 24).toNatClampNeg)) = (3 : Int32) → FV g mX8_takeSecond [.ref 44, .int (h1 44 24)] (q_up (q_up h1 55 ((h1 44 24).toNatClampNeg) (h1 44 25)) 44 23 ((h1 44 23) &&& (((1 : Int32) <<< ((h1 44 25) &&& 31)) ^^^ (-1 : Int32)))) (fun h2 => FW g mX8_seat 0 [some (.ref 44), some (.int a1)] [] h2 (q_RV K)))))) : FW g mX8_seat 0 [some (.ref 44), some (.int a1)] [] h (q_RV K) := by
  refine QW.aload_n dX8_seat_0 rfl ?_
  refine QW.iload_n dX8_seat_1 rfl ?_
  refine FW.callVi [.int a1] [] rfl dX8_seat_2 lmX8_195 sC_44 rfl ⟨Nat.le_of_ble_eq_true rfl, Nat.le_of_ble_eq_true rfl⟩ ⟨rfl, rfl⟩ (Nat.le_of_ble_eq_true rfl) (FI.mono (fun x1 h1 vc => ?_) vc)
  refine QW.if_eq 62 dX8_seat_5 rfl (fun hc => ?_) (fun hc => ?_)
  · replace vc := vc.1 hc
    exact FW.retV dX8_seat_62 rfl vc
  · replace vc := vc.2 hc
    refine QW.aload_n dX8_seat_8 rfl ?_
    refine FW.getR dX8_seat_9 lfX8_45 sR_44_21 ?_
    refine QW.aload_n dX8_seat_12 rfl ?_
    refine FW.getI (h1 44 24) dX8_seat_13 lfX8_189 sI_44_24 rfl ?_
    refine QW.aload_n dX8_seat_16 rfl ?_
    refine FW.getI (h1 44 25) dX8_seat_17 lfX8_192 sI_44_25 rfl ?_
    refine FW.iast dX8_seat_20 sA_55 vc.1 ?_
    replace vc := vc.2
    refine QW.aload_n dX8_seat_21 rfl ?_
    refine QW.dupr dX8_seat_22 ?_
    refine FW.getI (h1 44 23) dX8_seat_23 lfX8_186 sI_44_23 rfl ?_
    refine QW.iconst (1 : Int32) rfl dX8_seat_26 ?_
    refine QW.aload_n dX8_seat_27 rfl ?_
    refine FW.getI (h1 44 25) dX8_seat_28 lfX8_192 sI_44_25 rfl ?_
    refine QW.ishl dX8_seat_31 ?_
    refine QW.iconst (-1 : Int32) rfl dX8_seat_32 ?_
    refine QW.ixor dX8_seat_33 ?_
    refine QW.iand dX8_seat_34 ?_
    refine FW.putI dX8_seat_35 lfX8_186 sP_44_23 ?_
    refine QW.aload_n dX8_seat_38 rfl ?_
    refine FW.getR dX8_seat_39 lfX8_27 sR_44_8 ?_
    refine QW.aload_n dX8_seat_42 rfl ?_
    refine FW.getI (h1 44 24) dX8_seat_43 lfX8_189 sI_44_24 rfl ?_
    refine FW.iald (h1 49 ((h1 44 24).toNatClampNeg)) dX8_seat_46 sA_49 vc.1 rfl ?_
    replace vc := vc.2
    refine QW.iconst (3 : Int32) rfl dX8_seat_47 ?_
    refine QW.icmp_ne 0 dX8_seat_48 rfl (fun hc => ?_) (fun hc => ?_)
    · replace vc := vc.1 hc
      exact vc
    · replace vc := vc.2 hc
      refine QW.aload_n dX8_seat_51 rfl ?_
      refine QW.aload_n dX8_seat_52 rfl ?_
      refine FW.getI (h1 44 24) dX8_seat_53 lfX8_189 sI_44_24 rfl ?_
      refine FW.callVv [.int (h1 44 24)] [] rfl dX8_seat_56 lmX8_198 sC_44 rfl ⟨Nat.le_of_ble_eq_true rfl, Nat.le_of_ble_eq_true rfl⟩ ⟨rfl, rfl⟩ (Nat.le_of_ble_eq_true rfl) (FV.mono (fun h2 vc => ?_) vc)
      refine QW.goto 0 dX8_seat_59 rfl ?_
      exact vc
theorem vX5_doGuest_0 {g : QG} {K : Int32 → Hp → Prop} {h : Hp} {a1 : Int32} (vc : ((h 9 2) < (6 : Int32) → FW g mX5_doGuest 16 [some (.ref 7), some (.int a1), some (.int (0 : Int32))] [] h (q_RI K)) ∧ (¬ (h 9 2) < (6 : Int32) → K (0 : Int32) h)) : FW g mX5_doGuest 0 [some (.ref 7), some (.int a1), none] [] h (q_RI K) := by
  refine QW.aload_n dX5_doGuest_0 rfl ?_
  refine FW.getR dX5_doGuest_1 lfX5_18 sR_7_2 ?_
  refine FW.getI (h 9 2) dX5_doGuest_4 lfX5_84 sI_9_2 rfl ?_
  refine QW.bipush (6 : Int32) rfl dX5_doGuest_7 ?_
  refine QW.icmp_lt 14 dX5_doGuest_9 rfl (fun hc => ?_) (fun hc => ?_)
  · replace vc := vc.1 hc
    refine QW.iconst (0 : Int32) rfl dX5_doGuest_14 ?_
    refine QW.istore_n [some (.ref 7), some (.int a1), some (.int (0 : Int32))] dX5_doGuest_15 (by decide) rfl rfl ?_
    exact vc
  · replace vc := vc.2 hc
    refine QW.iconst (0 : Int32) rfl dX5_doGuest_12 ?_
    exact FW.retZ (Or.inl rfl) dX5_doGuest_13 rfl vc
theorem vX5_doGuest_16 {g : QG} {K : Int32 → Hp → Prop} {h : Hp} {a1 a2 : Int32} (vc : ((4 : Int32) ≤ a2 → FI g mX6_addGuest [.ref 9, .int a1, .ref 15] h (fun x1 h1 => q_bool x1 ∧ K x1 h1)) ∧ (¬ (4 : Int32) ≤ a2 → FI g mX5_mostOf [.ref 7, .int a2] h (fun x2 h2 => FI g mX5_readNumber [.ref 7, .int (0 : Int32), .int x2] h2 (fun x3 h3 => (¬ x3 = 0 → vp_in a2 4 ∧ FW g mX5_doGuest 16 [some (.ref 7), some (.int a1), some (.int (a2 + (1 : Int32)))] [] (q_up h3 15 a2.toNatClampNeg (h3 7 6)) (q_RI K)) ∧ (x3 = 0 → K (0 : Int32) h3))))) : FW g mX5_doGuest 16 [some (.ref 7), some (.int a1), some (.int a2)] [] h (q_RI K) := by
  refine QW.iload_n dX5_doGuest_16 rfl ?_
  refine QW.iconst (4 : Int32) rfl dX5_doGuest_17 ?_
  refine QW.icmp_ge 52 dX5_doGuest_18 rfl (fun hc => ?_) (fun hc => ?_)
  · replace vc := vc.1 hc
    refine QW.aload_n dX5_doGuest_52 rfl ?_
    refine FW.getR dX5_doGuest_53 lfX5_18 sR_7_2 ?_
    refine QW.iload_n dX5_doGuest_56 rfl ?_
    refine QW.aload_n dX5_doGuest_57 rfl ?_
    refine FW.getR dX5_doGuest_58 lfX5_22 sR_7_7 ?_
    refine FW.callVi [.int a1, .ref 15] [] rfl dX5_doGuest_61 lmX5_125 sC_9 rfl ⟨Nat.le_of_ble_eq_true rfl, Nat.le_of_ble_eq_true rfl⟩ ⟨rfl, rfl⟩ (Nat.le_of_ble_eq_true rfl) (FI.mono (fun x1 h1 vc => ?_) vc)
    exact FW.retZ vc.1 dX5_doGuest_64 rfl vc.2
  · replace vc := vc.2 hc
    refine QW.aload_n dX5_doGuest_21 rfl ?_
    refine QW.iconst (0 : Int32) rfl dX5_doGuest_22 ?_
    refine QW.aload_n dX5_doGuest_23 rfl ?_
    refine QW.iload_n dX5_doGuest_24 rfl ?_
    refine FW.callVi [.int a2] [.int (0 : Int32), .ref 7] rfl dX5_doGuest_25 lmX5_121 sC_7 rfl ⟨Nat.le_of_ble_eq_true rfl, Nat.le_of_ble_eq_true rfl⟩ ⟨rfl, rfl⟩ (Nat.le_of_ble_eq_true rfl) (FI.mono (fun x2 h2 vc => ?_) vc)
    refine FW.callVi [.int (0 : Int32), .int x2] [] rfl dX5_doGuest_28 lmX5_101 sC_7 rfl ⟨Nat.le_of_ble_eq_true rfl, Nat.le_of_ble_eq_true rfl⟩ ⟨rfl, rfl⟩ (Nat.le_of_ble_eq_true rfl) (FI.mono (fun x3 h3 vc => ?_) vc)
    refine QW.if_ne 36 dX5_doGuest_31 rfl (fun hc => ?_) (fun hc => ?_)
    · replace vc := vc.1 hc
      refine QW.aload_n dX5_doGuest_36 rfl ?_
      refine FW.getR dX5_doGuest_37 lfX5_22 sR_7_7 ?_
      refine QW.iload_n dX5_doGuest_40 rfl ?_
      refine QW.aload_n dX5_doGuest_41 rfl ?_
      refine FW.getI (h3 7 6) dX5_doGuest_42 lfX5_105 sI_7_6 rfl ?_
      refine FW.iast dX5_doGuest_45 sA_15 vc.1 ?_
      replace vc := vc.2
      refine QW.iinc (a2 + (1 : Int32)) [some (.ref 7), some (.int a1), some (.int (a2 + (1 : Int32)))] dX5_doGuest_46 rfl rfl (by decide) rfl rfl ?_
      refine QW.goto 16 dX5_doGuest_49 rfl ?_
      exact vc
    · replace vc := vc.2 hc
      refine QW.iconst (0 : Int32) rfl dX5_doGuest_34 ?_
      exact FW.retZ (Or.inl rfl) dX5_doGuest_35 rfl vc
theorem vX5_doChair_0 {g : QG} {K : Int32 → Hp → Prop} {h : Hp} {a1 : Int32} (vc : FI g mX5_readNumber [.ref 7, .int (0 : Int32), .int ((h 9 0) - (1 : Int32))] h (fun x1 h1 => (x1 = 0 → K (0 : Int32) h1) ∧ (¬ x1 = 0 → FI g mX6_hasChair [.ref 9, .int (h1 7 6)] h1 (fun x2 h2 => (x2 = a1 → K (1 : Int32) (q_up h2 9 1 ((h2 9 1) ^^^ ((1 : Int32) <<< ((h2 7 6) &&& 31))))) ∧ (¬ x2 = a1 → K (0 : Int32) h2))))) : FW g mX5_doChair 0 [some (.ref 7), some (.int a1)] [] h (q_RI K) := by
  refine QW.aload_n dX5_doChair_0 rfl ?_
  refine QW.iconst (0 : Int32) rfl dX5_doChair_1 ?_
  refine QW.aload_n dX5_doChair_2 rfl ?_
  refine FW.getR dX5_doChair_3 lfX5_18 sR_7_2 ?_
  refine FW.getI (h 9 0) dX5_doChair_6 lfX5_112 sI_9_0 rfl ?_
  refine QW.iconst (1 : Int32) rfl dX5_doChair_9 ?_
  refine QW.isub dX5_doChair_10 ?_
  refine FW.callVi [.int (0 : Int32), .int ((h 9 0) - (1 : Int32))] [] rfl dX5_doChair_11 lmX5_101 sC_7 rfl ⟨Nat.le_of_ble_eq_true rfl, Nat.le_of_ble_eq_true rfl⟩ ⟨rfl, rfl⟩ (Nat.le_of_ble_eq_true rfl) (FI.mono (fun x1 h1 vc => ?_) vc)
  refine QW.if_eq 32 dX5_doChair_14 rfl (fun hc => ?_) (fun hc => ?_)
  · replace vc := vc.1 hc
    refine QW.iconst (0 : Int32) rfl dX5_doChair_32 ?_
    exact FW.retZ (Or.inl rfl) dX5_doChair_33 rfl vc
  · replace vc := vc.2 hc
    refine QW.aload_n dX5_doChair_17 rfl ?_
    refine FW.getR dX5_doChair_18 lfX5_18 sR_7_2 ?_
    refine QW.aload_n dX5_doChair_21 rfl ?_
    refine FW.getI (h1 7 6) dX5_doChair_22 lfX5_105 sI_7_6 rfl ?_
    refine FW.callVi [.int (h1 7 6)] [] rfl dX5_doChair_25 lmX5_115 sC_9 rfl ⟨Nat.le_of_ble_eq_true rfl, Nat.le_of_ble_eq_true rfl⟩ ⟨rfl, rfl⟩ (Nat.le_of_ble_eq_true rfl) (FI.mono (fun x2 h2 vc => ?_) vc)
    refine QW.iload_n dX5_doChair_28 rfl ?_
    refine QW.icmp_eq 34 dX5_doChair_29 rfl (fun hc => ?_) (fun hc => ?_)
    · replace vc := vc.1 hc
      refine QW.aload_n dX5_doChair_34 rfl ?_
      refine FW.getR dX5_doChair_35 lfX5_18 sR_7_2 ?_
      refine QW.dupr dX5_doChair_38 ?_
      refine FW.getI (h2 9 1) dX5_doChair_39 lfX5_118 sI_9_1 rfl ?_
      refine QW.iconst (1 : Int32) rfl dX5_doChair_42 ?_
      refine QW.aload_n dX5_doChair_43 rfl ?_
      refine FW.getI (h2 7 6) dX5_doChair_44 lfX5_105 sI_7_6 rfl ?_
      refine QW.ishl dX5_doChair_47 ?_
      refine QW.ixor dX5_doChair_48 ?_
      refine FW.putI dX5_doChair_49 lfX5_118 sP_9_1 ?_
      refine QW.iconst (1 : Int32) rfl dX5_doChair_52 ?_
      exact FW.retZ (Or.inr rfl) dX5_doChair_53 rfl vc
    · replace vc := vc.2 hc
      refine QW.iconst (0 : Int32) rfl dX5_doChair_32 ?_
      exact FW.retZ (Or.inl rfl) dX5_doChair_33 rfl vc
theorem vX5_doInn_0 {g : QG} {K : Int32 → Hp → Prop} {h : Hp} (vc : FI g mX5_readNumber [.ref 7, .int (3 : Int32), .int (12 : Int32)] h (fun x1 h1 => (¬ x1 = 0 → FV g mX6_beginInn [.ref 9, .int (h1 7 6)] h1 (fun h2 => K (1 : Int32) h2)) ∧ (x1 = 0 → K (0 : Int32) h1))) : FW g mX5_doInn 0 [some (.ref 7)] [] h (q_RI K) := by
  refine QW.aload_n dX5_doInn_0 rfl ?_
  refine QW.iconst (3 : Int32) rfl dX5_doInn_1 ?_
  refine QW.bipush (12 : Int32) rfl dX5_doInn_2 ?_
  refine FW.callVi [.int (3 : Int32), .int (12 : Int32)] [] rfl dX5_doInn_4 lmX5_101 sC_7 rfl ⟨Nat.le_of_ble_eq_true rfl, Nat.le_of_ble_eq_true rfl⟩ ⟨rfl, rfl⟩ (Nat.le_of_ble_eq_true rfl) (FI.mono (fun x1 h1 vc => ?_) vc)
  refine QW.if_ne 12 dX5_doInn_7 rfl (fun hc => ?_) (fun hc => ?_)
  · replace vc := vc.1 hc
    refine QW.aload_n dX5_doInn_12 rfl ?_
    refine FW.getR dX5_doInn_13 lfX5_18 sR_7_2 ?_
    refine QW.aload_n dX5_doInn_16 rfl ?_
    refine FW.getI (h1 7 6) dX5_doInn_17 lfX5_105 sI_7_6 rfl ?_
    refine FW.callVv [.int (h1 7 6)] [] rfl dX5_doInn_20 lmX5_108 sC_9 rfl ⟨Nat.le_of_ble_eq_true rfl, Nat.le_of_ble_eq_true rfl⟩ ⟨rfl, rfl⟩ (Nat.le_of_ble_eq_true rfl) (FV.mono (fun h2 vc => ?_) vc)
    refine QW.iconst (1 : Int32) rfl dX5_doInn_23 ?_
    exact FW.retZ (Or.inr rfl) dX5_doInn_24 rfl vc
  · replace vc := vc.2 hc
    refine QW.iconst (0 : Int32) rfl dX5_doInn_10 ?_
    exact FW.retZ (Or.inl rfl) dX5_doInn_11 rfl vc
theorem vX8_readsGuest_0 {g : QG} {K : Int32 → Hp → Prop} {h : Hp} (vc : FI g mX8_reads [.ref 44, .int (0 : Int32), .int (0 : Int32), .int ((h 44 17) - (1 : Int32))] h (fun x1 h1 => (x1 = 0 → K (0 : Int32) h1) ∧ (¬ x1 = 0 → FI g mX8_reads [.ref 44, .int (1 : Int32), .int (0 : Int32), .int (3 : Int32)] h1 (fun x2 h2 => (x2 = 0 → K (0 : Int32) h2) ∧ (¬ x2 = 0 → FI g mX8_reads [.ref 44, .int (2 : Int32), .int (0 : Int32), .int (1 : Int32)] h2 (fun x3 h3 => (x3 = 0 → K (0 : Int32) h3) ∧ (¬ x3 = 0 → FI g mX8_reads [.ref 44, .int (3 : Int32), .int (0 : Int32), .int (99 : Int32)] h3 (fun x4 h4 => (x4 = 0 → K (0 : Int32) h4) ∧ (¬ x4 = 0 → K (1 : Int32) h4))))))))) : FW g mX8_readsGuest 0 [some (.ref 44)] [] h (q_RI K) := by
  refine QW.aload_n dX8_readsGuest_0 rfl ?_
  refine QW.iconst (0 : Int32) rfl dX8_readsGuest_1 ?_
  refine QW.iconst (0 : Int32) rfl dX8_readsGuest_2 ?_
  refine QW.aload_n dX8_readsGuest_3 rfl ?_
  refine FW.getI (h 44 17) dX8_readsGuest_4 lfX8_120 sI_44_17 rfl ?_
  refine QW.iconst (1 : Int32) rfl dX8_readsGuest_7 ?_
  refine QW.isub dX8_readsGuest_8 ?_
  refine FW.callVi [.int (0 : Int32), .int (0 : Int32), .int ((h 44 17) - (1 : Int32))] [] rfl dX8_readsGuest_9 lmX8_123 sC_44 rfl ⟨Nat.le_of_ble_eq_true rfl, Nat.le_of_ble_eq_true rfl⟩ ⟨rfl, rfl⟩ (Nat.le_of_ble_eq_true rfl) (FI.mono (fun x1 h1 vc => ?_) vc)
  refine QW.if_eq 50 dX8_readsGuest_12 rfl (fun hc => ?_) (fun hc => ?_)
  · replace vc := vc.1 hc
    refine QW.iconst (0 : Int32) rfl dX8_readsGuest_50 ?_
    exact FW.retZ (Or.inl rfl) dX8_readsGuest_51 rfl vc
  · replace vc := vc.2 hc
    refine QW.aload_n dX8_readsGuest_15 rfl ?_
    refine QW.iconst (1 : Int32) rfl dX8_readsGuest_16 ?_
    refine QW.iconst (0 : Int32) rfl dX8_readsGuest_17 ?_
    refine QW.iconst (3 : Int32) rfl dX8_readsGuest_18 ?_
    refine FW.callVi [.int (1 : Int32), .int (0 : Int32), .int (3 : Int32)] [] rfl dX8_readsGuest_19 lmX8_123 sC_44 rfl ⟨Nat.le_of_ble_eq_true rfl, Nat.le_of_ble_eq_true rfl⟩ ⟨rfl, rfl⟩ (Nat.le_of_ble_eq_true rfl) (FI.mono (fun x2 h2 vc => ?_) vc)
    refine QW.if_eq 50 dX8_readsGuest_22 rfl (fun hc => ?_) (fun hc => ?_)
    · replace vc := vc.1 hc
      refine QW.iconst (0 : Int32) rfl dX8_readsGuest_50 ?_
      exact FW.retZ (Or.inl rfl) dX8_readsGuest_51 rfl vc
    · replace vc := vc.2 hc
      refine QW.aload_n dX8_readsGuest_25 rfl ?_
      refine QW.iconst (2 : Int32) rfl dX8_readsGuest_26 ?_
      refine QW.iconst (0 : Int32) rfl dX8_readsGuest_27 ?_
      refine QW.iconst (1 : Int32) rfl dX8_readsGuest_28 ?_
      refine FW.callVi [.int (2 : Int32), .int (0 : Int32), .int (1 : Int32)] [] rfl dX8_readsGuest_29 lmX8_123 sC_44 rfl ⟨Nat.le_of_ble_eq_true rfl, Nat.le_of_ble_eq_true rfl⟩ ⟨rfl, rfl⟩ (Nat.le_of_ble_eq_true rfl) (FI.mono (fun x3 h3 vc => ?_) vc)
      refine QW.if_eq 50 dX8_readsGuest_32 rfl (fun hc => ?_) (fun hc => ?_)
      · replace vc := vc.1 hc
        refine QW.iconst (0 : Int32) rfl dX8_readsGuest_50 ?_
        exact FW.retZ (Or.inl rfl) dX8_readsGuest_51 rfl vc
      · replace vc := vc.2 hc
        refine QW.aload_n dX8_readsGuest_35 rfl ?_
        refine QW.iconst (3 : Int32) rfl dX8_readsGuest_36 ?_
        refine QW.iconst (0 : Int32) rfl dX8_readsGuest_37 ?_
        refine QW.bipush (99 : Int32) rfl dX8_readsGuest_38 ?_
        refine FW.callVi [.int (3 : Int32), .int (0 : Int32), .int (99 : Int32)] [] rfl dX8_readsGuest_40 lmX8_123 sC_44 rfl ⟨Nat.le_of_ble_eq_true rfl, Nat.le_of_ble_eq_true rfl⟩ ⟨rfl, rfl⟩ (Nat.le_of_ble_eq_true rfl) (FI.mono (fun x4 h4 vc => ?_) vc)
        refine QW.if_eq 50 dX8_readsGuest_43 rfl (fun hc => ?_) (fun hc => ?_)
        · replace vc := vc.1 hc
          refine QW.iconst (0 : Int32) rfl dX8_readsGuest_50 ?_
          exact FW.retZ (Or.inl rfl) dX8_readsGuest_51 rfl vc
        · replace vc := vc.2 hc
          refine QW.iconst (1 : Int32) rfl dX8_readsGuest_46 ?_
          refine QW.goto 51 dX8_readsGuest_47 rfl ?_
          exact FW.retZ (Or.inr rfl) dX8_readsGuest_51 rfl vc
theorem vX3_settle_0 {g : QG} {K : Int32 → Hp → Prop} {h : Hp} {a1 a2 : Int32} (vc : FV g mJ7_fill_53178 [.ref 18, .int (-1 : Int32)] h (fun h1 => FV g mJ7_fill_53178 [.ref 19, .int (-1 : Int32)] h1 (fun h2 => FI g mX6_allOfKind [.ref 1, .int (2 : Int32)] (q_up (q_up h2 16 4 (0 : Int32)) 16 5 a2) (fun x3 h3 => FI g mX3_seatAll [.ref 16, .int (a1 &&& (x3 ^^^ (-1 : Int32)))] h3 (fun x4 h4 => K x4 h4))))) : FW g mX3_settle 0 [some (.ref 16), some (.int a1), some (.int a2)] [] h (q_RI K) := by
  refine QW.aload_n dX3_settle_0 rfl ?_
  refine FW.getR dX3_settle_1 lfX3_15 sR_16_2 ?_
  refine QW.iconst (-1 : Int32) rfl dX3_settle_4 ?_
  refine FW.callSv [.ref 18, .int (-1 : Int32)] [] rfl dX3_settle_5 lmX3_25 rfl ⟨Nat.le_of_ble_eq_true rfl, Nat.le_of_ble_eq_true rfl⟩ ⟨rfl, rfl⟩ (Nat.le_of_ble_eq_true rfl) (FV.mono (fun h1 vc => ?_) vc)
  refine QW.aload_n dX3_settle_8 rfl ?_
  refine FW.getR dX3_settle_9 lfX3_18 sR_16_3 ?_
  refine QW.iconst (-1 : Int32) rfl dX3_settle_12 ?_
  refine FW.callSv [.ref 19, .int (-1 : Int32)] [] rfl dX3_settle_13 lmX3_25 rfl ⟨Nat.le_of_ble_eq_true rfl, Nat.le_of_ble_eq_true rfl⟩ ⟨rfl, rfl⟩ (Nat.le_of_ble_eq_true rfl) (FV.mono (fun h2 vc => ?_) vc)
  refine QW.aload_n dX3_settle_16 rfl ?_
  refine QW.iconst (0 : Int32) rfl dX3_settle_17 ?_
  refine FW.putZ (Or.inl rfl) dX3_settle_18 lfX3_31 sP_16_4 ?_
  refine QW.aload_n dX3_settle_21 rfl ?_
  refine QW.iload_n dX3_settle_22 rfl ?_
  refine FW.putI dX3_settle_23 lfX3_35 sP_16_5 ?_
  refine QW.aload_n dX3_settle_26 rfl ?_
  refine QW.iload_n dX3_settle_27 rfl ?_
  refine QW.aload_n dX3_settle_28 rfl ?_
  refine FW.getR dX3_settle_29 lfX3_21 sR_16_0 ?_
  refine QW.iconst (2 : Int32) rfl dX3_settle_32 ?_
  refine FW.callVi [.int (2 : Int32)] [.int a1, .ref 16] rfl dX3_settle_33 lmX3_39 sC_1 rfl ⟨Nat.le_of_ble_eq_true rfl, Nat.le_of_ble_eq_true rfl⟩ ⟨rfl, rfl⟩ (Nat.le_of_ble_eq_true rfl) (FI.mono (fun x3 h3 vc => ?_) vc)
  refine QW.iconst (-1 : Int32) rfl dX3_settle_36 ?_
  refine QW.ixor dX3_settle_37 ?_
  refine QW.iand dX3_settle_38 ?_
  refine FW.callVi [.int (a1 &&& (x3 ^^^ (-1 : Int32)))] [] rfl dX3_settle_39 lmX3_45 sC_16 rfl ⟨Nat.le_of_ble_eq_true rfl, Nat.le_of_ble_eq_true rfl⟩ ⟨rfl, rfl⟩ (Nat.le_of_ble_eq_true rfl) (FI.mono (fun x4 h4 vc => ?_) vc)
  exact FW.ret dX3_settle_42 rfl vc
theorem vX3_settleFaint_0 {g : QG} {K : Hp → Prop} {h : Hp} {a1 : Int32} (vc : FI g mX6_allOfKind [.ref 1, .int (2 : Int32)] h (fun x1 h1 => FI g mX3_seatAll [.ref 16, .int (a1 &&& x1)] h1 (fun x2 h2 => K h2))) : FW g mX3_settleFaint 0 [some (.ref 16), some (.int a1)] [] h (q_RV K) := by
  refine QW.aload_n dX3_settleFaint_0 rfl ?_
  refine QW.iload_n dX3_settleFaint_1 rfl ?_
  refine QW.aload_n dX3_settleFaint_2 rfl ?_
  refine FW.getR dX3_settleFaint_3 lfX3_21 sR_16_0 ?_
  refine QW.iconst (2 : Int32) rfl dX3_settleFaint_6 ?_
  refine FW.callVi [.int (2 : Int32)] [.int a1, .ref 16] rfl dX3_settleFaint_7 lmX3_39 sC_1 rfl ⟨Nat.le_of_ble_eq_true rfl, Nat.le_of_ble_eq_true rfl⟩ ⟨rfl, rfl⟩ (Nat.le_of_ble_eq_true rfl) (FI.mono (fun x1 h1 vc => ?_) vc)
  refine QW.iand dX3_settleFaint_10 ?_
  refine FW.callVi [.int (a1 &&& x1)] [] rfl dX3_settleFaint_11 lmX3_45 sC_16 rfl ⟨Nat.le_of_ble_eq_true rfl, Nat.le_of_ble_eq_true rfl⟩ ⟨rfl, rfl⟩ (Nat.le_of_ble_eq_true rfl) (FI.mono (fun x2 h2 vc => ?_) vc)
  refine QW.popi dX3_settleFaint_14 ?_
  exact FW.retV dX3_settleFaint_15 rfl vc
theorem vX8_stops_0 {g : QG} {K : Int32 → Hp → Prop} {h : Hp} {a1 a2 : Int32} (vc : FW g mX8_stops 7 [some (.ref 44), none, some (.int a2), some (.int (0 : Int32)), none] [] (q_up h 44 23 a1) (q_RI K)) : FW g mX8_stops 0 [some (.ref 44), some (.int a1), some (.int a2), none, none] [] h (q_RI K) := by
  refine QW.aload_n dX8_stops_0 rfl ?_
  refine QW.iload_n dX8_stops_1 rfl ?_
  refine FW.putI dX8_stops_2 lfX8_186 sP_44_23 ?_
  refine QW.iconst (0 : Int32) rfl dX8_stops_5 ?_
  refine QW.istore_n [some (.ref 44), some (.int a1), some (.int a2), some (.int (0 : Int32)), none] dX8_stops_6 (by decide) rfl rfl ?_
  exact QW.sub (by exact ⟨rfl, ⟨rfl, ⟨rfl, trivial⟩⟩⟩) vc
theorem vX8_stops_7 {g : QG} {K : Int32 → Hp → Prop} {h : Hp} {a2 a3 : Int32} (vc : ((6 : Int32) ≤ a3 → FI g mX8_faint [.ref 44] h (fun x1 h1 => FV g mX8_seat [.ref 44, .int (a2 &&& (x1 ^^^ (-1 : Int32)))] h1 (fun h2 => FI g mX8_faint [.ref 44] h2 (fun x3 h3 => FV g mX8_seat [.ref 44, .int (a2 &&& x3)] h3 (fun h4 => FW g mX8_stops 60 [some (.ref 44), none, some (.int a2), some (.int (0 : Int32)), some (.int (0 : Int32))] [] h4 (q_RI K)))))) ∧ (¬ (6 : Int32) ≤ a3 → vp_in a3 6 ∧ vp_in a3 6 ∧ FW g mX8_stops 7 [some (.ref 44), none, some (.int a2), some (.int (a3 + (1 : Int32))), none] [] (q_up (q_up h 55 a3.toNatClampNeg (-1 : Int32)) 56 a3.toNatClampNeg (-1 : Int32)) (q_RI K))) : FW g mX8_stops 7 [some (.ref 44), none, some (.int a2), some (.int a3), none] [] h (q_RI K) := by
  refine QW.iload_n dX8_stops_7 rfl ?_
  refine QW.bipush (6 : Int32) rfl dX8_stops_8 ?_
  refine QW.icmp_ge 33 dX8_stops_10 rfl (fun hc => ?_) (fun hc => ?_)
  · replace vc := vc.1 hc
    refine QW.aload_n dX8_stops_33 rfl ?_
    refine QW.iload_n dX8_stops_34 rfl ?_
    refine QW.aload_n dX8_stops_35 rfl ?_
    refine FW.callVi [] [.int a2, .ref 44] rfl dX8_stops_36 lmX8_201 sC_44 rfl ⟨Nat.le_of_ble_eq_true rfl, Nat.le_of_ble_eq_true rfl⟩ ⟨rfl, rfl⟩ (Nat.le_of_ble_eq_true rfl) (FI.mono (fun x1 h1 vc => ?_) vc)
    refine QW.iconst (-1 : Int32) rfl dX8_stops_39 ?_
    refine QW.ixor dX8_stops_40 ?_
    refine QW.iand dX8_stops_41 ?_
    refine FW.callVv [.int (a2 &&& (x1 ^^^ (-1 : Int32)))] [] rfl dX8_stops_42 lmX8_204 sC_44 rfl ⟨Nat.le_of_ble_eq_true rfl, Nat.le_of_ble_eq_true rfl⟩ ⟨rfl, rfl⟩ (Nat.le_of_ble_eq_true rfl) (FV.mono (fun h2 vc => ?_) vc)
    refine QW.aload_n dX8_stops_45 rfl ?_
    refine QW.iload_n dX8_stops_46 rfl ?_
    refine QW.aload_n dX8_stops_47 rfl ?_
    refine FW.callVi [] [.int a2, .ref 44] rfl dX8_stops_48 lmX8_201 sC_44 rfl ⟨Nat.le_of_ble_eq_true rfl, Nat.le_of_ble_eq_true rfl⟩ ⟨rfl, rfl⟩ (Nat.le_of_ble_eq_true rfl) (FI.mono (fun x3 h3 vc => ?_) vc)
    refine QW.iand dX8_stops_51 ?_
    refine FW.callVv [.int (a2 &&& x3)] [] rfl dX8_stops_52 lmX8_204 sC_44 rfl ⟨Nat.le_of_ble_eq_true rfl, Nat.le_of_ble_eq_true rfl⟩ ⟨rfl, rfl⟩ (Nat.le_of_ble_eq_true rfl) (FV.mono (fun h4 vc => ?_) vc)
    refine QW.iconst (0 : Int32) rfl dX8_stops_55 ?_
    refine QW.istore_n [some (.ref 44), none, some (.int a2), some (.int (0 : Int32)), none] dX8_stops_56 (by decide) rfl rfl ?_
    refine QW.iconst (0 : Int32) rfl dX8_stops_57 ?_
    refine QW.istore [some (.ref 44), none, some (.int a2), some (.int (0 : Int32)), some (.int (0 : Int32))] dX8_stops_58 (by decide) rfl rfl ?_
    exact vc
  · replace vc := vc.2 hc
    refine QW.aload_n dX8_stops_13 rfl ?_
    refine FW.getR dX8_stops_14 lfX8_45 sR_44_21 ?_
    refine QW.iload_n dX8_stops_17 rfl ?_
    refine QW.iconst (-1 : Int32) rfl dX8_stops_18 ?_
    refine FW.iast dX8_stops_19 sA_55 vc.1 ?_
    replace vc := vc.2
    refine QW.aload_n dX8_stops_20 rfl ?_
    refine FW.getR dX8_stops_21 lfX8_48 sR_44_22 ?_
    refine QW.iload_n dX8_stops_24 rfl ?_
    refine QW.iconst (-1 : Int32) rfl dX8_stops_25 ?_
    refine FW.iast dX8_stops_26 sA_56 vc.1 ?_
    replace vc := vc.2
    refine QW.iinc (a3 + (1 : Int32)) [some (.ref 44), none, some (.int a2), some (.int (a3 + (1 : Int32))), none] dX8_stops_27 rfl rfl (by decide) rfl rfl ?_
    refine QW.goto 7 dX8_stops_30 rfl ?_
    exact vc
theorem vX8_stops_60 {g : QG} {K : Int32 → Hp → Prop} {h : Hp} {a2 a3 a4 : Int32} (vc : ((h 44 13) ≤ a4 → K a3 h) ∧ (¬ (h 44 13) ≤ a4 → FI g mX8_faint [.ref 44] h (fun x1 h1 => FI g mX8_has [.int (a2 &&& (x1 ^^^ (-1 : Int32))), .int a4] h1 (fun x2 h2 => (x2 = 0 → FW g mX8_stops 60 [some (.ref 44), none, some (.int a2), some (.int (a3 ||| (0 : Int32))), some (.int (a4 + (1 : Int32)))] [] h2 (q_RI K)) ∧ (¬ x2 = 0 → vp_in a4 6 ∧ (¬ (h2 55 a4.toNatClampNeg) = (-1 : Int32) → FW g mX8_stops 60 [some (.ref 44), none, some (.int a2), some (.int (a3 ||| (0 : Int32))), some (.int (a4 + (1 : Int32)))] [] h2 (q_RI K)) ∧ ((h2 55 a4.toNatClampNeg) = (-1 : Int32) → FW g mX8_stops 60 [some (.ref 44), none, some (.int a2), some (.int (a3 ||| ((1 : Int32) <<< (a4 &&& 31)))), some (.int (a4 + (1 : Int32)))] [] h2 (q_RI K))))))) : FW g mX8_stops 60 [some (.ref 44), none, some (.int a2), some (.int a3), some (.int a4)] [] h (q_RI K) := by
  refine QW.iload dX8_stops_60 rfl ?_
  refine QW.aload_n dX8_stops_62 rfl ?_
  refine FW.getI (h 44 13) dX8_stops_63 lfX8_74 sI_44_13 rfl ?_
  refine QW.icmp_ge 113 dX8_stops_66 rfl (fun hc => ?_) (fun hc => ?_)
  · replace vc := vc.1 hc
    refine QW.iload_n dX8_stops_113 rfl ?_
    exact FW.ret dX8_stops_114 rfl vc
  · replace vc := vc.2 hc
    refine QW.iload_n dX8_stops_69 rfl ?_
    refine QW.iload_n dX8_stops_70 rfl ?_
    refine QW.aload_n dX8_stops_71 rfl ?_
    refine FW.callVi [] [.int a2, .int a3] rfl dX8_stops_72 lmX8_201 sC_44 rfl ⟨Nat.le_of_ble_eq_true rfl, Nat.le_of_ble_eq_true rfl⟩ ⟨rfl, rfl⟩ (Nat.le_of_ble_eq_true rfl) (FI.mono (fun x1 h1 vc => ?_) vc)
    refine QW.iconst (-1 : Int32) rfl dX8_stops_75 ?_
    refine QW.ixor dX8_stops_76 ?_
    refine QW.iand dX8_stops_77 ?_
    refine QW.iload dX8_stops_78 rfl ?_
    refine FW.callSi [.int (a2 &&& (x1 ^^^ (-1 : Int32))), .int a4] [.int a3] rfl dX8_stops_80 lmX8_130 rfl ⟨Nat.le_of_ble_eq_true rfl, Nat.le_of_ble_eq_true rfl⟩ ⟨rfl, rfl⟩ (Nat.le_of_ble_eq_true rfl) (FI.mono (fun x2 h2 vc => ?_) vc)
    refine QW.if_eq 104 dX8_stops_83 rfl (fun hc => ?_) (fun hc => ?_)
    · replace vc := vc.1 hc
      refine QW.iconst (0 : Int32) rfl dX8_stops_104 ?_
      refine QW.ior dX8_stops_105 ?_
      refine QW.istore_n [some (.ref 44), none, some (.int a2), some (.int (a3 ||| (0 : Int32))), some (.int a4)] dX8_stops_106 (by decide) rfl rfl ?_
      refine QW.iinc (a4 + (1 : Int32)) [some (.ref 44), none, some (.int a2), some (.int (a3 ||| (0 : Int32))), some (.int (a4 + (1 : Int32)))] dX8_stops_107 rfl rfl (by decide) rfl rfl ?_
      refine QW.goto 60 dX8_stops_110 rfl ?_
      exact vc
    · replace vc := vc.2 hc
      refine QW.aload_n dX8_stops_86 rfl ?_
      refine FW.getR dX8_stops_87 lfX8_45 sR_44_21 ?_
      refine QW.iload dX8_stops_90 rfl ?_
      refine FW.iald (h2 55 a4.toNatClampNeg) dX8_stops_92 sA_55 vc.1 rfl ?_
      replace vc := vc.2
      refine QW.iconst (-1 : Int32) rfl dX8_stops_93 ?_
      refine QW.icmp_ne 104 dX8_stops_94 rfl (fun hc => ?_) (fun hc => ?_)
      · replace vc := vc.1 hc
        refine QW.iconst (0 : Int32) rfl dX8_stops_104 ?_
        refine QW.ior dX8_stops_105 ?_
        refine QW.istore_n [some (.ref 44), none, some (.int a2), some (.int (a3 ||| (0 : Int32))), some (.int a4)] dX8_stops_106 (by decide) rfl rfl ?_
        refine QW.iinc (a4 + (1 : Int32)) [some (.ref 44), none, some (.int a2), some (.int (a3 ||| (0 : Int32))), some (.int (a4 + (1 : Int32)))] dX8_stops_107 rfl rfl (by decide) rfl rfl ?_
        refine QW.goto 60 dX8_stops_110 rfl ?_
        exact vc
      · replace vc := vc.2 hc
        refine QW.iconst (1 : Int32) rfl dX8_stops_97 ?_
        refine QW.iload dX8_stops_98 rfl ?_
        refine QW.ishl dX8_stops_100 ?_
        refine QW.goto 105 dX8_stops_101 rfl ?_
        refine QW.ior dX8_stops_105 ?_
        refine QW.istore_n [some (.ref 44), none, some (.int a2), some (.int (a3 ||| ((1 : Int32) <<< (a4 &&& 31)))), some (.int a4)] dX8_stops_106 (by decide) rfl rfl ?_
        refine QW.iinc (a4 + (1 : Int32)) [some (.ref 44), none, some (.int a2), some (.int (a3 ||| ((1 : Int32) <<< (a4 &&& 31)))), some (.int (a4 + (1 : Int32)))] dX8_stops_107 rfl rfl (by decide) rfl rfl ?_
        refine QW.goto 60 dX8_stops_110 rfl ?_
        exact vc
theorem vX8_readsRest_0 {g : QG} {K : Int32 → Hp → Prop} {h : Hp} {a1 : Int32} (vc : FI g mX8_numberHere [.ref 44] h (fun x1 h1 => FI g mX8_in [.long x1.toInt64, .long (0 : Int64), .long (((h1 44 17) - (1 : Int32)).toInt64)] h1 (fun x2 h2 => (a1 = (0 : Int32) → FI g mX8_reads [.ref 44, .int (0 : Int32), .int (3 : Int32), .int (12 : Int32)] h2 (fun x3 h3 => q_bool x3 ∧ K x3 h3)) ∧ (¬ a1 = (0 : Int32) → (a1 = (1 : Int32) → (x2 = 0 → K (0 : Int32) h2) ∧ (¬ x2 = 0 → FI g mX8_has [.int (h2 44 18), .int x1] h2 (fun x4 h4 => (¬ x4 = 0 → K (0 : Int32) h4) ∧ (x4 = 0 → FI g mX8_reads [.ref 44, .int (0 : Int32), .int (0 : Int32), .int (11 : Int32)] h4 (fun x5 h5 => (x5 = 0 → K (0 : Int32) h5) ∧ (¬ x5 = 0 → K (1 : Int32) h5)))))) ∧ (¬ a1 = (1 : Int32) → (a1 = (2 : Int32) → (x2 = 0 → K (0 : Int32) h2) ∧ (¬ x2 = 0 → FI g mX8_has [.int (h2 44 18), .int x1] h2 (fun x6 h6 => (x6 = 0 → K (0 : Int32) h6) ∧ (¬ x6 = 0 → FI g mX8_reads [.ref 44, .int (0 : Int32), .int (0 : Int32), .int (11 : Int32)] h6 (fun x7 h7 => (x7 = 0 → K (0 : Int32) h7) ∧ (¬ x7 = 0 → K (1 : Int32) h7)))))) ∧ (¬ a1 = (2 : Int32) → (a1 = (3 : Int32) → FI g mX8_readsGuest [.ref 44] h2 (fun x8 h8 => q_bool x8 ∧ K x8 h8)) ∧ (¬ a1 = (3 : Int32) → (a1 = (4 : Int32) → FI g mX8_readsGuest [.ref 44] h2 (fun x9 h9 => q_bool x9 ∧ K x9 h9)) ∧ (¬ a1 = (4 : Int32) → (a1 = (5 : Int32) → FI g mX8_readsGuest [.ref 44] h2 (fun x10 h10 => q_bool x10 ∧ K x10 h10)) ∧ (¬ a1 = (5 : Int32) → (a1 = (6 : Int32) → FI g mX8_readsGuest [.ref 44] h2 (fun x11 h11 => q_bool x11 ∧ K x11 h11)) ∧ (¬ a1 = (6 : Int32) → (a1 = (7 : Int32) → K (1 : Int32) h2) ∧ (¬ a1 = (7 : Int32) → FI g mX8_readsGuest [.ref 44] h2 (fun x12 h12 => q_bool x12 ∧ K x12 h12)))))))))))) : FW g mX8_readsRest 0 [some (.ref 44), some (.int a1), none, none] [] h (q_RI K) := by
  refine QW.aload_n dX8_readsRest_0 rfl ?_
  refine FW.callVi [] [] rfl dX8_readsRest_1 lmX8_111 sC_44 rfl ⟨Nat.le_of_ble_eq_true rfl, Nat.le_of_ble_eq_true rfl⟩ ⟨rfl, rfl⟩ (Nat.le_of_ble_eq_true rfl) (FI.mono (fun x1 h1 vc => ?_) vc)
  refine QW.istore_n [some (.ref 44), some (.int a1), some (.int x1), none] dX8_readsRest_4 (by decide) rfl rfl ?_
  refine QW.iload_n dX8_readsRest_5 rfl ?_
  refine QW.i2l dX8_readsRest_6 ?_
  refine QW.lconst (0 : Int64) rfl dX8_readsRest_7 ?_
  refine QW.aload_n dX8_readsRest_8 rfl ?_
  refine FW.getI (h1 44 17) dX8_readsRest_9 lfX8_120 sI_44_17 rfl ?_
  refine QW.iconst (1 : Int32) rfl dX8_readsRest_12 ?_
  refine QW.isub dX8_readsRest_13 ?_
  refine QW.i2l dX8_readsRest_14 ?_
  refine FW.callSi [.long x1.toInt64, .long (0 : Int64), .long (((h1 44 17) - (1 : Int32)).toInt64)] [] rfl dX8_readsRest_15 lmX8_70 rfl ⟨Nat.le_of_ble_eq_true rfl, Nat.le_of_ble_eq_true rfl⟩ ⟨rfl, rfl⟩ (Nat.le_of_ble_eq_true rfl) (FI.mono (fun x2 h2 vc => ?_) vc)
  refine QW.istore_n [some (.ref 44), some (.int a1), some (.int x1), some (.int x2)] dX8_readsRest_18 (by decide) rfl rfl ?_
  refine QW.iload_n dX8_readsRest_19 rfl ?_
  by_cases c0 : a1 = (0 : Int32)
  · replace vc := vc.1 c0
    refine QW.tabIn 68 dX8_readsRest_20 (by rw [c0]; decide) (by rw [c0]; decide) (by rw [c0]; rfl) rfl ?_
    refine QW.aload_n dX8_readsRest_68 rfl ?_
    refine QW.iconst (0 : Int32) rfl dX8_readsRest_69 ?_
    refine QW.iconst (3 : Int32) rfl dX8_readsRest_70 ?_
    refine QW.bipush (12 : Int32) rfl dX8_readsRest_71 ?_
    refine FW.callVi [.int (0 : Int32), .int (3 : Int32), .int (12 : Int32)] [] rfl dX8_readsRest_73 lmX8_123 sC_44 rfl ⟨Nat.le_of_ble_eq_true rfl, Nat.le_of_ble_eq_true rfl⟩ ⟨rfl, rfl⟩ (Nat.le_of_ble_eq_true rfl) (FI.mono (fun x3 h3 vc => ?_) vc)
    exact FW.retZ vc.1 dX8_readsRest_76 rfl vc.2
  · replace vc := vc.2 c0
    by_cases c1 : a1 = (1 : Int32)
    · replace vc := vc.1 c1
      refine QW.tabIn 77 dX8_readsRest_20 (by rw [c1]; decide) (by rw [c1]; decide) (by rw [c1]; rfl) rfl ?_
      refine QW.iload_n dX8_readsRest_77 rfl ?_
      refine QW.if_eq 107 dX8_readsRest_78 rfl (fun hc => ?_) (fun hc => ?_)
      · replace vc := vc.1 hc
        refine QW.iconst (0 : Int32) rfl dX8_readsRest_107 ?_
        exact FW.retZ (Or.inl rfl) dX8_readsRest_108 rfl vc
      · replace vc := vc.2 hc
        refine QW.aload_n dX8_readsRest_81 rfl ?_
        refine FW.getI (h2 44 18) dX8_readsRest_82 lfX8_127 sI_44_18 rfl ?_
        refine QW.iload_n dX8_readsRest_85 rfl ?_
        refine FW.callSi [.int (h2 44 18), .int x1] [] rfl dX8_readsRest_86 lmX8_130 rfl ⟨Nat.le_of_ble_eq_true rfl, Nat.le_of_ble_eq_true rfl⟩ ⟨rfl, rfl⟩ (Nat.le_of_ble_eq_true rfl) (FI.mono (fun x4 h4 vc => ?_) vc)
        refine QW.if_ne 107 dX8_readsRest_89 rfl (fun hc => ?_) (fun hc => ?_)
        · replace vc := vc.1 hc
          refine QW.iconst (0 : Int32) rfl dX8_readsRest_107 ?_
          exact FW.retZ (Or.inl rfl) dX8_readsRest_108 rfl vc
        · replace vc := vc.2 hc
          refine QW.aload_n dX8_readsRest_92 rfl ?_
          refine QW.iconst (0 : Int32) rfl dX8_readsRest_93 ?_
          refine QW.iconst (0 : Int32) rfl dX8_readsRest_94 ?_
          refine QW.bipush (11 : Int32) rfl dX8_readsRest_95 ?_
          refine FW.callVi [.int (0 : Int32), .int (0 : Int32), .int (11 : Int32)] [] rfl dX8_readsRest_97 lmX8_123 sC_44 rfl ⟨Nat.le_of_ble_eq_true rfl, Nat.le_of_ble_eq_true rfl⟩ ⟨rfl, rfl⟩ (Nat.le_of_ble_eq_true rfl) (FI.mono (fun x5 h5 vc => ?_) vc)
          refine QW.if_eq 107 dX8_readsRest_100 rfl (fun hc => ?_) (fun hc => ?_)
          · replace vc := vc.1 hc
            refine QW.iconst (0 : Int32) rfl dX8_readsRest_107 ?_
            exact FW.retZ (Or.inl rfl) dX8_readsRest_108 rfl vc
          · replace vc := vc.2 hc
            refine QW.iconst (1 : Int32) rfl dX8_readsRest_103 ?_
            refine QW.goto 108 dX8_readsRest_104 rfl ?_
            exact FW.retZ (Or.inr rfl) dX8_readsRest_108 rfl vc
    · replace vc := vc.2 c1
      by_cases c2 : a1 = (2 : Int32)
      · replace vc := vc.1 c2
        refine QW.tabIn 109 dX8_readsRest_20 (by rw [c2]; decide) (by rw [c2]; decide) (by rw [c2]; rfl) rfl ?_
        refine QW.iload_n dX8_readsRest_109 rfl ?_
        refine QW.if_eq 139 dX8_readsRest_110 rfl (fun hc => ?_) (fun hc => ?_)
        · replace vc := vc.1 hc
          refine QW.iconst (0 : Int32) rfl dX8_readsRest_139 ?_
          exact FW.retZ (Or.inl rfl) dX8_readsRest_140 rfl vc
        · replace vc := vc.2 hc
          refine QW.aload_n dX8_readsRest_113 rfl ?_
          refine FW.getI (h2 44 18) dX8_readsRest_114 lfX8_127 sI_44_18 rfl ?_
          refine QW.iload_n dX8_readsRest_117 rfl ?_
          refine FW.callSi [.int (h2 44 18), .int x1] [] rfl dX8_readsRest_118 lmX8_130 rfl ⟨Nat.le_of_ble_eq_true rfl, Nat.le_of_ble_eq_true rfl⟩ ⟨rfl, rfl⟩ (Nat.le_of_ble_eq_true rfl) (FI.mono (fun x6 h6 vc => ?_) vc)
          refine QW.if_eq 139 dX8_readsRest_121 rfl (fun hc => ?_) (fun hc => ?_)
          · replace vc := vc.1 hc
            refine QW.iconst (0 : Int32) rfl dX8_readsRest_139 ?_
            exact FW.retZ (Or.inl rfl) dX8_readsRest_140 rfl vc
          · replace vc := vc.2 hc
            refine QW.aload_n dX8_readsRest_124 rfl ?_
            refine QW.iconst (0 : Int32) rfl dX8_readsRest_125 ?_
            refine QW.iconst (0 : Int32) rfl dX8_readsRest_126 ?_
            refine QW.bipush (11 : Int32) rfl dX8_readsRest_127 ?_
            refine FW.callVi [.int (0 : Int32), .int (0 : Int32), .int (11 : Int32)] [] rfl dX8_readsRest_129 lmX8_123 sC_44 rfl ⟨Nat.le_of_ble_eq_true rfl, Nat.le_of_ble_eq_true rfl⟩ ⟨rfl, rfl⟩ (Nat.le_of_ble_eq_true rfl) (FI.mono (fun x7 h7 vc => ?_) vc)
            refine QW.if_eq 139 dX8_readsRest_132 rfl (fun hc => ?_) (fun hc => ?_)
            · replace vc := vc.1 hc
              refine QW.iconst (0 : Int32) rfl dX8_readsRest_139 ?_
              exact FW.retZ (Or.inl rfl) dX8_readsRest_140 rfl vc
            · replace vc := vc.2 hc
              refine QW.iconst (1 : Int32) rfl dX8_readsRest_135 ?_
              refine QW.goto 140 dX8_readsRest_136 rfl ?_
              exact FW.retZ (Or.inr rfl) dX8_readsRest_140 rfl vc
      · replace vc := vc.2 c2
        by_cases c3 : a1 = (3 : Int32)
        · replace vc := vc.1 c3
          refine QW.tabIn 143 dX8_readsRest_20 (by rw [c3]; decide) (by rw [c3]; decide) (by rw [c3]; rfl) rfl ?_
          refine QW.aload_n dX8_readsRest_143 rfl ?_
          refine FW.callVi [] [] rfl dX8_readsRest_144 lmX8_133 sC_44 rfl ⟨Nat.le_of_ble_eq_true rfl, Nat.le_of_ble_eq_true rfl⟩ ⟨rfl, rfl⟩ (Nat.le_of_ble_eq_true rfl) (FI.mono (fun x8 h8 vc => ?_) vc)
          exact FW.retZ vc.1 dX8_readsRest_147 rfl vc.2
        · replace vc := vc.2 c3
          by_cases c4 : a1 = (4 : Int32)
          · replace vc := vc.1 c4
            refine QW.tabIn 143 dX8_readsRest_20 (by rw [c4]; decide) (by rw [c4]; decide) (by rw [c4]; rfl) rfl ?_
            refine QW.aload_n dX8_readsRest_143 rfl ?_
            refine FW.callVi [] [] rfl dX8_readsRest_144 lmX8_133 sC_44 rfl ⟨Nat.le_of_ble_eq_true rfl, Nat.le_of_ble_eq_true rfl⟩ ⟨rfl, rfl⟩ (Nat.le_of_ble_eq_true rfl) (FI.mono (fun x9 h9 vc => ?_) vc)
            exact FW.retZ vc.1 dX8_readsRest_147 rfl vc.2
          · replace vc := vc.2 c4
            by_cases c5 : a1 = (5 : Int32)
            · replace vc := vc.1 c5
              refine QW.tabIn 143 dX8_readsRest_20 (by rw [c5]; decide) (by rw [c5]; decide) (by rw [c5]; rfl) rfl ?_
              refine QW.aload_n dX8_readsRest_143 rfl ?_
              refine FW.callVi [] [] rfl dX8_readsRest_144 lmX8_133 sC_44 rfl ⟨Nat.le_of_ble_eq_true rfl, Nat.le_of_ble_eq_true rfl⟩ ⟨rfl, rfl⟩ (Nat.le_of_ble_eq_true rfl) (FI.mono (fun x10 h10 vc => ?_) vc)
              exact FW.retZ vc.1 dX8_readsRest_147 rfl vc.2
            · replace vc := vc.2 c5
              by_cases c6 : a1 = (6 : Int32)
              · replace vc := vc.1 c6
                refine QW.tabIn 143 dX8_readsRest_20 (by rw [c6]; decide) (by rw [c6]; decide) (by rw [c6]; rfl) rfl ?_
                refine QW.aload_n dX8_readsRest_143 rfl ?_
                refine FW.callVi [] [] rfl dX8_readsRest_144 lmX8_133 sC_44 rfl ⟨Nat.le_of_ble_eq_true rfl, Nat.le_of_ble_eq_true rfl⟩ ⟨rfl, rfl⟩ (Nat.le_of_ble_eq_true rfl) (FI.mono (fun x11 h11 vc => ?_) vc)
                exact FW.retZ vc.1 dX8_readsRest_147 rfl vc.2
              · replace vc := vc.2 c6
                by_cases c7 : a1 = (7 : Int32)
                · replace vc := vc.1 c7
                  refine QW.tabIn 141 dX8_readsRest_20 (by rw [c7]; decide) (by rw [c7]; decide) (by rw [c7]; rfl) rfl ?_
                  refine QW.iconst (1 : Int32) rfl dX8_readsRest_141 ?_
                  exact FW.retZ (Or.inr rfl) dX8_readsRest_142 rfl vc
                · replace vc := vc.2 c7
                  refine QW.tabOut 143 dX8_readsRest_20 (by have n0 := lv_neT c0 (a := 0) (by decide); have n1 := lv_neT c1 (a := 1) (by decide); have n2 := lv_neT c2 (a := 2) (by decide); have n3 := lv_neT c3 (a := 3) (by decide); have n4 := lv_neT c4 (a := 4) (by decide); have n5 := lv_neT c5 (a := 5) (by decide); have n6 := lv_neT c6 (a := 6) (by decide); have n7 := lv_neT c7 (a := 7) (by decide); omega) rfl ?_
                  refine QW.aload_n dX8_readsRest_143 rfl ?_
                  refine FW.callVi [] [] rfl dX8_readsRest_144 lmX8_133 sC_44 rfl ⟨Nat.le_of_ble_eq_true rfl, Nat.le_of_ble_eq_true rfl⟩ ⟨rfl, rfl⟩ (Nat.le_of_ble_eq_true rfl) (FI.mono (fun x12 h12 vc => ?_) vc)
                  exact FW.retZ vc.1 dX8_readsRest_147 rfl vc.2
theorem vX7_stop_0 {g : QG} {K : Int32 → Hp → Prop} {h : Hp} (vc : (¬ (h 26 1) = 0 → FI g mX6_everyone [.ref 1] (q_upA h 17 (va_cpy (h 27) (h 17) 0 0 6)) (fun x1 h1 => FI g mX3_settle [.ref 16, .int x1, .int (h1 1 1)] h1 (fun x2 h2 => FI g mX6_everyone [.ref 1] h2 (fun x3 h3 => FV g mX3_settleFaint [.ref 16, .int x3] h3 (fun h4 => FV g mX0_end [.ref 26, .ref 1, .ref 16, .int x2] h4 (fun h5 => K x2 h5)))))) ∧ ((h 26 1) = 0 → K (-4 : Int32) h)) : FW g mX7_stop 0 [some (.ref 0), none] [] h (q_RI K) := by
  refine QW.aload_n dX7_stop_0 rfl ?_
  refine FW.getR dX7_stop_1 lfX7_53 sR_0_5 ?_
  refine FW.getI (h 26 1) dX7_stop_4 lfX7_156 sI_26_1 rfl ?_
  refine QW.if_ne 13 dX7_stop_7 rfl (fun hc => ?_) (fun hc => ?_)
  · replace vc := vc.1 hc
    refine QW.aload_n dX7_stop_13 rfl ?_
    refine FW.getR dX7_stop_14 lfX7_53 sR_0_5 ?_
    refine FW.getR dX7_stop_17 lfX7_127 sR_26_4 ?_
    refine QW.iconst (0 : Int32) rfl dX7_stop_20 ?_
    refine QW.aload_n dX7_stop_21 rfl ?_
    refine FW.getR dX7_stop_22 lfX7_28 sR_0_2 ?_
    refine FW.getR dX7_stop_25 lfX7_166 sR_16_1 ?_
    refine QW.iconst (0 : Int32) rfl dX7_stop_28 ?_
    refine QW.bipush (6 : Int32) rfl dX7_stop_29 ?_
    refine FW.copy dX7_stop_31 lyX7_167 sA_27 sA_17 (by decide) (Nat.le_of_ble_eq_true rfl) (by decide) ?_
    refine QW.aload_n dX7_stop_34 rfl ?_
    refine FW.getR dX7_stop_35 lfX7_28 sR_0_2 ?_
    refine QW.aload_n dX7_stop_38 rfl ?_
    refine FW.getR dX7_stop_39 lfX7_10 sR_0_0 ?_
    refine FW.callVi [] [.ref 16] rfl dX7_stop_42 lmX7_173 sC_1 rfl ⟨Nat.le_of_ble_eq_true rfl, Nat.le_of_ble_eq_true rfl⟩ ⟨rfl, rfl⟩ (Nat.le_of_ble_eq_true rfl) (FI.mono (fun x1 h1 vc => ?_) vc)
    refine QW.aload_n dX7_stop_45 rfl ?_
    refine FW.getR dX7_stop_46 lfX7_10 sR_0_0 ?_
    refine FW.getI (h1 1 1) dX7_stop_49 lfX7_177 sI_1_1 rfl ?_
    refine FW.callVi [.int x1, .int (h1 1 1)] [] rfl dX7_stop_52 lmX7_180 sC_16 rfl ⟨Nat.le_of_ble_eq_true rfl, Nat.le_of_ble_eq_true rfl⟩ ⟨rfl, rfl⟩ (Nat.le_of_ble_eq_true rfl) (FI.mono (fun x2 h2 vc => ?_) vc)
    refine QW.istore_n [some (.ref 0), some (.int x2)] dX7_stop_55 (by decide) rfl rfl ?_
    refine QW.aload_n dX7_stop_56 rfl ?_
    refine FW.getR dX7_stop_57 lfX7_28 sR_0_2 ?_
    refine QW.aload_n dX7_stop_60 rfl ?_
    refine FW.getR dX7_stop_61 lfX7_10 sR_0_0 ?_
    refine FW.callVi [] [.ref 16] rfl dX7_stop_64 lmX7_173 sC_1 rfl ⟨Nat.le_of_ble_eq_true rfl, Nat.le_of_ble_eq_true rfl⟩ ⟨rfl, rfl⟩ (Nat.le_of_ble_eq_true rfl) (FI.mono (fun x3 h3 vc => ?_) vc)
    refine FW.callVv [.int x3] [] rfl dX7_stop_67 lmX7_183 sC_16 rfl ⟨Nat.le_of_ble_eq_true rfl, Nat.le_of_ble_eq_true rfl⟩ ⟨rfl, rfl⟩ (Nat.le_of_ble_eq_true rfl) (FV.mono (fun h4 vc => ?_) vc)
    refine QW.aload_n dX7_stop_70 rfl ?_
    refine FW.getR dX7_stop_71 lfX7_53 sR_0_5 ?_
    refine QW.aload_n dX7_stop_74 rfl ?_
    refine FW.getR dX7_stop_75 lfX7_10 sR_0_0 ?_
    refine QW.aload_n dX7_stop_78 rfl ?_
    refine FW.getR dX7_stop_79 lfX7_28 sR_0_2 ?_
    refine QW.iload_n dX7_stop_82 rfl ?_
    refine FW.callVv [.ref 1, .ref 16, .int x2] [] rfl dX7_stop_83 lmX7_186 sC_26 rfl ⟨Nat.le_of_ble_eq_true rfl, Nat.le_of_ble_eq_true rfl⟩ ⟨rfl, rfl⟩ (Nat.le_of_ble_eq_true rfl) (FV.mono (fun h5 vc => ?_) vc)
    refine QW.iload_n dX7_stop_86 rfl ?_
    exact FW.ret dX7_stop_87 rfl vc
  · replace vc := vc.2 hc
    refine QW.bipush (-4 : Int32) rfl dX7_stop_10 ?_
    exact FW.ret dX7_stop_12 rfl vc
theorem vX8_stop_0 {g : QG} {K : Int32 → Hp → Prop} {h : Hp} (vc : (¬ (h 45 1) = (1 : Int32) → FW g mX8_stop 17 [some (.ref 44), some (.int (0 : Int32)), some (.int (0 : Int32)), none] [] h (q_RI K)) ∧ ((h 45 1) = (1 : Int32) → K (-4 : Int32) h)) : FW g mX8_stop 0 [some (.ref 44), none, none, none] [] h (q_RI K) := by
  refine QW.aload_n dX8_stop_0 rfl ?_
  refine FW.getR dX8_stop_1 lfX8_7 sR_44_0 ?_
  refine QW.iconst (1 : Int32) rfl dX8_stop_4 ?_
  refine FW.iald (h 45 1) dX8_stop_5 sA_45 (by unfold vp_in; decide) rfl ?_
  refine QW.iconst (1 : Int32) rfl dX8_stop_6 ?_
  refine QW.icmp_ne 13 dX8_stop_7 rfl (fun hc => ?_) (fun hc => ?_)
  · replace vc := vc.1 hc
    refine QW.iconst (0 : Int32) rfl dX8_stop_13 ?_
    refine QW.istore_n [some (.ref 44), some (.int (0 : Int32)), none, none] dX8_stop_14 (by decide) rfl rfl ?_
    refine QW.iconst (0 : Int32) rfl dX8_stop_15 ?_
    refine QW.istore_n [some (.ref 44), some (.int (0 : Int32)), some (.int (0 : Int32)), none] dX8_stop_16 (by decide) rfl rfl ?_
    exact vc
  · replace vc := vc.2 hc
    refine QW.bipush (-4 : Int32) rfl dX8_stop_10 ?_
    exact FW.ret dX8_stop_12 rfl vc
theorem vX8_stop_17 {g : QG} {K : Int32 → Hp → Prop} {h : Hp} {a1 a2 : Int32} (vc : ((h 44 13) ≤ a2 → FI g mX8_everybody [.ref 44] h (fun x1 h1 => FI g mX8_stops [.ref 44, .int (h 44 7), .int x1] h1 (fun x2 h2 => FW g mX8_stop 69 [some (.ref 44), some (.int a1), some (.int x2), some (.int (0 : Int32))] [] h2 (q_RI K)))) ∧ (¬ (h 44 13) ≤ a2 → vp_in ((3 : Int32) + a2) 81 ∧ vp_in a2 6 ∧ vp_in a2 6 ∧ FW g mX8_stop 17 [some (.ref 44), some (.int (a1 + (h 53 a2.toNatClampNeg))), some (.int (a2 + (1 : Int32))), none] [] (q_up h 54 a2.toNatClampNeg (h 45 (((3 : Int32) + a2).toNatClampNeg))) (q_RI K))) : FW g mX8_stop 17 [some (.ref 44), some (.int a1), some (.int a2), none] [] h (q_RI K) := by
  refine QW.iload_n dX8_stop_17 rfl ?_
  refine QW.aload_n dX8_stop_18 rfl ?_
  refine FW.getI (h 44 13) dX8_stop_19 lfX8_74 sI_44_13 rfl ?_
  refine QW.icmp_ge 54 dX8_stop_22 rfl (fun hc => ?_) (fun hc => ?_)
  · replace vc := vc.1 hc
    refine QW.aload_n dX8_stop_54 rfl ?_
    refine QW.aload_n dX8_stop_55 rfl ?_
    refine FW.getI (h 44 7) dX8_stop_56 lfX8_154 sI_44_7 rfl ?_
    refine QW.aload_n dX8_stop_59 rfl ?_
    refine FW.callVi [] [.int (h 44 7), .ref 44] rfl dX8_stop_60 lmX8_213 sC_44 rfl ⟨Nat.le_of_ble_eq_true rfl, Nat.le_of_ble_eq_true rfl⟩ ⟨rfl, rfl⟩ (Nat.le_of_ble_eq_true rfl) (FI.mono (fun x1 h1 vc => ?_) vc)
    refine FW.callVi [.int (h 44 7), .int x1] [] rfl dX8_stop_63 lmX8_216 sC_44 rfl ⟨Nat.le_of_ble_eq_true rfl, Nat.le_of_ble_eq_true rfl⟩ ⟨rfl, rfl⟩ (Nat.le_of_ble_eq_true rfl) (FI.mono (fun x2 h2 vc => ?_) vc)
    refine QW.istore_n [some (.ref 44), some (.int a1), some (.int x2), none] dX8_stop_66 (by decide) rfl rfl ?_
    refine QW.iconst (0 : Int32) rfl dX8_stop_67 ?_
    refine QW.istore_n [some (.ref 44), some (.int a1), some (.int x2), some (.int (0 : Int32))] dX8_stop_68 (by decide) rfl rfl ?_
    exact vc
  · replace vc := vc.2 hc
    refine QW.aload_n dX8_stop_25 rfl ?_
    refine FW.getR dX8_stop_26 lfX8_42 sR_44_20 ?_
    refine QW.iload_n dX8_stop_29 rfl ?_
    refine QW.aload_n dX8_stop_30 rfl ?_
    refine FW.getR dX8_stop_31 lfX8_7 sR_44_0 ?_
    refine QW.iconst (3 : Int32) rfl dX8_stop_34 ?_
    refine QW.iload_n dX8_stop_35 rfl ?_
    refine QW.iadd dX8_stop_36 ?_
    refine FW.iald (h 45 (((3 : Int32) + a2).toNatClampNeg)) dX8_stop_37 sA_45 vc.1 rfl ?_
    replace vc := vc.2
    refine FW.iast dX8_stop_38 sA_54 vc.1 ?_
    replace vc := vc.2
    refine QW.iload_n dX8_stop_39 rfl ?_
    refine QW.aload_n dX8_stop_40 rfl ?_
    refine FW.getR dX8_stop_41 lfX8_39 sR_44_12 ?_
    refine QW.iload_n dX8_stop_44 rfl ?_
    refine FW.iald (h 53 a2.toNatClampNeg) dX8_stop_45 sA_53 vc.1 rfl ?_
    replace vc := vc.2
    refine QW.iadd dX8_stop_46 ?_
    refine QW.istore_n [some (.ref 44), some (.int (a1 + (h 53 a2.toNatClampNeg))), some (.int a2), none] dX8_stop_47 (by decide) rfl rfl ?_
    refine QW.iinc (a2 + (1 : Int32)) [some (.ref 44), some (.int (a1 + (h 53 a2.toNatClampNeg))), some (.int (a2 + (1 : Int32))), none] dX8_stop_48 rfl rfl (by decide) rfl rfl ?_
    refine QW.goto 17 dX8_stop_51 rfl ?_
    exact vc
theorem vX8_stop_69 {g : QG} {K : Int32 → Hp → Prop} {h : Hp} {a1 a2 a3 : Int32} (vc : ((h 44 13) ≤ a3 → K a2 (q_up (q_up h 45 1 (1 : Int32)) 45 2 a2)) ∧ (¬ (h 44 13) ≤ a3 → vp_in a3 6 ∧ vp_in ((9 : Int32) + a3) 81 ∧ vp_in a3 6 ∧ vp_in ((15 : Int32) + a3) 81 ∧ vp_in a3 6 ∧ (¬ (h 55 a3.toNatClampNeg) = (-1 : Int32) → vp_in a3 6 ∧ FW g mX8_stop 141 [some (.ref 44), some (.int a1), some (.int a2), some (.int a3)] [.int (h 55 a3.toNatClampNeg), .int ((3 : Int32) + a3), .ref 45] (q_up (q_up h 45 (((9 : Int32) + a3).toNatClampNeg) (h 55 a3.toNatClampNeg)) 45 (((15 : Int32) + a3).toNatClampNeg) (h 56 a3.toNatClampNeg)) (q_RI K)) ∧ ((h 55 a3.toNatClampNeg) = (-1 : Int32) → vp_in ((3 : Int32) + a3) 81 ∧ FW g mX8_stop 141 [some (.ref 44), some (.int a1), some (.int a2), some (.int a3)] [.int ((q_up (q_up h 45 (((9 : Int32) + a3).toNatClampNeg) (h 55 a3.toNatClampNeg)) 45 (((15 : Int32) + a3).toNatClampNeg) (h 56 a3.toNatClampNeg)) 45 (((3 : Int32) + a3).toNatClampNeg)), .int ((3 : Int32) + a3), .ref 45] (q_up (q_up h 45 (((9 : Int32) + a3).toNatClampNeg) (h 55 a3.toNatClampNeg)) 45 (((15 : Int32) + a3).toNatClampNeg) (h 56 a3.toNatClampNeg)) (q_RI K)))) : FW g mX8_stop 69 [some (.ref 44), some (.int a1), some (.int a2), some (.int a3)] [] h (q_RI K) := by
  refine QW.iload_n dX8_stop_69 rfl ?_
  refine QW.aload_n dX8_stop_70 rfl ?_
  refine FW.getI (h 44 13) dX8_stop_71 lfX8_74 sI_44_13 rfl ?_
  refine QW.icmp_ge 178 dX8_stop_74 rfl (fun hc => ?_) (fun hc => ?_)
  · replace vc := vc.1 hc
    refine QW.aload_n dX8_stop_178 rfl ?_
    refine FW.getR dX8_stop_179 lfX8_7 sR_44_0 ?_
    refine QW.iconst (1 : Int32) rfl dX8_stop_182 ?_
    refine QW.iconst (1 : Int32) rfl dX8_stop_183 ?_
    refine FW.iast dX8_stop_184 sA_45 (by unfold vp_in; decide) ?_
    refine QW.aload_n dX8_stop_185 rfl ?_
    refine FW.getR dX8_stop_186 lfX8_7 sR_44_0 ?_
    refine QW.iconst (2 : Int32) rfl dX8_stop_189 ?_
    refine QW.iload_n dX8_stop_190 rfl ?_
    refine FW.iast dX8_stop_191 sA_45 (by unfold vp_in; decide) ?_
    refine QW.iload_n dX8_stop_192 rfl ?_
    exact FW.ret dX8_stop_193 rfl vc
  · replace vc := vc.2 hc
    refine QW.aload_n dX8_stop_77 rfl ?_
    refine FW.getR dX8_stop_78 lfX8_7 sR_44_0 ?_
    refine QW.bipush (9 : Int32) rfl dX8_stop_81 ?_
    refine QW.iload_n dX8_stop_83 rfl ?_
    refine QW.iadd dX8_stop_84 ?_
    refine QW.aload_n dX8_stop_85 rfl ?_
    refine FW.getR dX8_stop_86 lfX8_45 sR_44_21 ?_
    refine QW.iload_n dX8_stop_89 rfl ?_
    refine FW.iald (h 55 a3.toNatClampNeg) dX8_stop_90 sA_55 vc.1 rfl ?_
    replace vc := vc.2
    refine FW.iast dX8_stop_91 sA_45 vc.1 ?_
    replace vc := vc.2
    refine QW.aload_n dX8_stop_92 rfl ?_
    refine FW.getR dX8_stop_93 lfX8_7 sR_44_0 ?_
    refine QW.bipush (15 : Int32) rfl dX8_stop_96 ?_
    refine QW.iload_n dX8_stop_98 rfl ?_
    refine QW.iadd dX8_stop_99 ?_
    refine QW.aload_n dX8_stop_100 rfl ?_
    refine FW.getR dX8_stop_101 lfX8_48 sR_44_22 ?_
    refine QW.iload_n dX8_stop_104 rfl ?_
    refine FW.iald (h 56 a3.toNatClampNeg) dX8_stop_105 sA_56 vc.1 rfl ?_
    replace vc := vc.2
    refine FW.iast dX8_stop_106 sA_45 vc.1 ?_
    replace vc := vc.2
    refine QW.aload_n dX8_stop_107 rfl ?_
    refine FW.getR dX8_stop_108 lfX8_7 sR_44_0 ?_
    refine QW.iconst (3 : Int32) rfl dX8_stop_111 ?_
    refine QW.iload_n dX8_stop_112 rfl ?_
    refine QW.iadd dX8_stop_113 ?_
    refine QW.aload_n dX8_stop_114 rfl ?_
    refine FW.getR dX8_stop_115 lfX8_45 sR_44_21 ?_
    refine QW.iload_n dX8_stop_118 rfl ?_
    refine FW.iald (h 55 a3.toNatClampNeg) dX8_stop_119 sA_55 vc.1 rfl ?_
    replace vc := vc.2
    refine QW.iconst (-1 : Int32) rfl dX8_stop_120 ?_
    refine QW.icmp_ne 135 dX8_stop_121 rfl (fun hc => ?_) (fun hc => ?_)
    · replace vc := vc.1 hc
      refine QW.aload_n dX8_stop_135 rfl ?_
      refine FW.getR dX8_stop_136 lfX8_45 sR_44_21 ?_
      refine QW.iload_n dX8_stop_139 rfl ?_
      refine FW.iald (h 55 a3.toNatClampNeg) dX8_stop_140 sA_55 vc.1 rfl ?_
      replace vc := vc.2
      exact vc
    · replace vc := vc.2 hc
      refine QW.aload_n dX8_stop_124 rfl ?_
      refine FW.getR dX8_stop_125 lfX8_7 sR_44_0 ?_
      refine QW.iconst (3 : Int32) rfl dX8_stop_128 ?_
      refine QW.iload_n dX8_stop_129 rfl ?_
      refine QW.iadd dX8_stop_130 ?_
      refine FW.iald ((q_up (q_up h 45 (((9 : Int32) + a3).toNatClampNeg) (h 55 a3.toNatClampNeg)) 45 (((15 : Int32) + a3).toNatClampNeg) (h 56 a3.toNatClampNeg)) 45 (((3 : Int32) + a3).toNatClampNeg)) dX8_stop_131 sA_45 vc.1 rfl ?_
      replace vc := vc.2
      refine QW.goto 141 dX8_stop_132 rfl ?_
      exact vc
theorem vX8_stop_141 {g : QG} {K : Int32 → Hp → Prop} {h : Hp} {a1 a2 a3 s1 s2 : Int32} (vc : vp_in s1 81 ∧ vp_in ((21 : Int32) + a3) 81 ∧ FI g mX8_has [.int a2, .int a3] (q_up h 45 s1.toNatClampNeg s2) (fun x1 h1 => (x1 = 0 → vp_in ((21 : Int32) + a3) 81 ∧ FW g mX8_stop 69 [some (.ref 44), some (.int a1), some (.int a2), some (.int (a3 + (1 : Int32)))] [] (q_up h1 45 (((21 : Int32) + a3).toNatClampNeg) (((q_up h 45 s1.toNatClampNeg s2) 45 (((21 : Int32) + a3).toNatClampNeg)) + (0 : Int32))) (q_RI K)) ∧ (¬ x1 = 0 → FI g mX8_bits [.int a2] h1 (fun x2 h2 => (¬ x2 = 0) ∧ vp_in ((21 : Int32) + a3) 81 ∧ FW g mX8_stop 69 [some (.ref 44), some (.int a1), some (.int a2), some (.int (a3 + (1 : Int32)))] [] (q_up h2 45 (((21 : Int32) + a3).toNatClampNeg) (((q_up h 45 s1.toNatClampNeg s2) 45 (((21 : Int32) + a3).toNatClampNeg)) + (a1 / x2))) (q_RI K))))) : FW g mX8_stop 141 [some (.ref 44), some (.int a1), some (.int a2), some (.int a3)] [.int s2, .int s1, .ref 45] h (q_RI K) := by
  refine FW.iast dX8_stop_141 sA_45 vc.1 ?_
  replace vc := vc.2
  refine QW.aload_n dX8_stop_142 rfl ?_
  refine FW.getR dX8_stop_143 lfX8_7 sR_44_0 ?_
  refine QW.bipush (21 : Int32) rfl dX8_stop_146 ?_
  refine QW.iload_n dX8_stop_148 rfl ?_
  refine QW.iadd dX8_stop_149 ?_
  refine QW.dup2ir dX8_stop_150 ?_
  refine FW.iald ((q_up h 45 s1.toNatClampNeg s2) 45 (((21 : Int32) + a3).toNatClampNeg)) dX8_stop_151 sA_45 vc.1 rfl ?_
  replace vc := vc.2
  refine QW.iload_n dX8_stop_152 rfl ?_
  refine QW.iload_n dX8_stop_153 rfl ?_
  refine FW.callSi [.int a2, .int a3] [.int ((q_up h 45 s1.toNatClampNeg s2) 45 (((21 : Int32) + a3).toNatClampNeg)), .int ((21 : Int32) + a3), .ref 45] rfl dX8_stop_154 lmX8_130 rfl ⟨Nat.le_of_ble_eq_true rfl, Nat.le_of_ble_eq_true rfl⟩ ⟨rfl, rfl⟩ (Nat.le_of_ble_eq_true rfl) (FI.mono (fun x1 h1 vc => ?_) vc)
  refine QW.if_eq 169 dX8_stop_157 rfl (fun hc => ?_) (fun hc => ?_)
  · replace vc := vc.1 hc
    refine QW.iconst (0 : Int32) rfl dX8_stop_169 ?_
    refine QW.iadd dX8_stop_170 ?_
    refine FW.iast dX8_stop_171 sA_45 vc.1 ?_
    replace vc := vc.2
    refine QW.iinc (a3 + (1 : Int32)) [some (.ref 44), some (.int a1), some (.int a2), some (.int (a3 + (1 : Int32)))] dX8_stop_172 rfl rfl (by decide) rfl rfl ?_
    refine QW.goto 69 dX8_stop_175 rfl ?_
    exact vc
  · replace vc := vc.2 hc
    refine QW.iload_n dX8_stop_160 rfl ?_
    refine QW.iload_n dX8_stop_161 rfl ?_
    refine FW.callSi [.int a2] [.int a1, .int ((q_up h 45 s1.toNatClampNeg s2) 45 (((21 : Int32) + a3).toNatClampNeg)), .int ((21 : Int32) + a3), .ref 45] rfl dX8_stop_162 lmX8_219 rfl ⟨Nat.le_of_ble_eq_true rfl, Nat.le_of_ble_eq_true rfl⟩ ⟨rfl, rfl⟩ (Nat.le_of_ble_eq_true rfl) (FI.mono (fun x2 h2 vc => ?_) vc)
    refine QW.idiv vc.1 dX8_stop_165 ?_
    replace vc := vc.2
    refine QW.goto 170 dX8_stop_166 rfl ?_
    refine QW.iadd dX8_stop_170 ?_
    refine FW.iast dX8_stop_171 sA_45 vc.1 ?_
    replace vc := vc.2
    refine QW.iinc (a3 + (1 : Int32)) [some (.ref 44), some (.int a1), some (.int a2), some (.int (a3 + (1 : Int32)))] dX8_stop_172 rfl rfl (by decide) rfl rfl ?_
    refine QW.goto 69 dX8_stop_175 rfl ?_
    exact vc
