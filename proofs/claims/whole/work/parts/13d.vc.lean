theorem vX6_copyFrom_r9_1_0 {g : QG} {K : Hp → Prop} {h : Hp} (vc : K (q_upA (q_upA (q_upA (q_upA (q_upA (q_up (q_up (q_up h 9 0 (h 1 0)) 9 1 (h 1 1)) 9 2 (h 1 2)) 10 (va_cpy (h 2) (h 10) 0 0 6)) 11 (va_cpy (h 3) (h 11) 0 0 6)) 12 (va_cpy (h 4) (h 12) 0 0 6)) 13 (va_cpy (h 5) (h 13) 0 0 6)) 14 (va_cpy (h 6) (h 14) 0 0 6))) : FW g mX6_copyFrom 0 [some (.ref 9), some (.ref 1)] [] h (q_RV K) := by
  refine QW.aload_n dX6_copyFrom_0 rfl ?_
  refine QW.aload_n dX6_copyFrom_1 rfl ?_
  refine FW.getI (h 1 0) dX6_copyFrom_2 lfX6_9 sI_1_0 rfl ?_
  refine FW.putI dX6_copyFrom_5 lfX6_9 sP_9_0 ?_
  refine QW.aload_n dX6_copyFrom_8 rfl ?_
  refine QW.aload_n dX6_copyFrom_9 rfl ?_
  refine FW.getI (h 1 1) dX6_copyFrom_10 lfX6_31 sI_1_1 rfl ?_
  refine FW.putI dX6_copyFrom_13 lfX6_31 sP_9_1 ?_
  refine QW.aload_n dX6_copyFrom_16 rfl ?_
  refine QW.aload_n dX6_copyFrom_17 rfl ?_
  refine FW.getI (h 1 2) dX6_copyFrom_18 lfX6_34 sI_1_2 rfl ?_
  refine FW.putI dX6_copyFrom_21 lfX6_34 sP_9_2 ?_
  refine QW.aload_n dX6_copyFrom_24 rfl ?_
  refine FW.getR dX6_copyFrom_25 lfX6_15 sR_1_3 ?_
  refine QW.iconst (0 : Int32) rfl dX6_copyFrom_28 ?_
  refine QW.aload_n dX6_copyFrom_29 rfl ?_
  refine FW.getR dX6_copyFrom_30 lfX6_15 sR_9_3 ?_
  refine QW.iconst (0 : Int32) rfl dX6_copyFrom_33 ?_
  refine QW.bipush (6 : Int32) rfl dX6_copyFrom_34 ?_
  refine FW.copy dX6_copyFrom_36 lyX6_37 sA_2 sA_10 (by decide) (Nat.le_of_ble_eq_true rfl) (by decide) ?_
  refine QW.aload_n dX6_copyFrom_39 rfl ?_
  refine FW.getR dX6_copyFrom_40 lfX6_19 sR_1_4 ?_
  refine QW.iconst (0 : Int32) rfl dX6_copyFrom_43 ?_
  refine QW.aload_n dX6_copyFrom_44 rfl ?_
  refine FW.getR dX6_copyFrom_45 lfX6_19 sR_9_4 ?_
  refine QW.iconst (0 : Int32) rfl dX6_copyFrom_48 ?_
  refine QW.bipush (6 : Int32) rfl dX6_copyFrom_49 ?_
  refine FW.copy dX6_copyFrom_51 lyX6_37 sA_3 sA_11 (by decide) (Nat.le_of_ble_eq_true rfl) (by decide) ?_
  refine QW.aload_n dX6_copyFrom_54 rfl ?_
  refine FW.getR dX6_copyFrom_55 lfX6_22 sR_1_5 ?_
  refine QW.iconst (0 : Int32) rfl dX6_copyFrom_58 ?_
  refine QW.aload_n dX6_copyFrom_59 rfl ?_
  refine FW.getR dX6_copyFrom_60 lfX6_22 sR_9_5 ?_
  refine QW.iconst (0 : Int32) rfl dX6_copyFrom_63 ?_
  refine QW.bipush (6 : Int32) rfl dX6_copyFrom_64 ?_
  refine FW.copy dX6_copyFrom_66 lyX6_37 sA_4 sA_12 (by decide) (Nat.le_of_ble_eq_true rfl) (by decide) ?_
  refine QW.aload_n dX6_copyFrom_69 rfl ?_
  refine FW.getR dX6_copyFrom_70 lfX6_25 sR_1_6 ?_
  refine QW.iconst (0 : Int32) rfl dX6_copyFrom_73 ?_
  refine QW.aload_n dX6_copyFrom_74 rfl ?_
  refine FW.getR dX6_copyFrom_75 lfX6_25 sR_9_6 ?_
  refine QW.iconst (0 : Int32) rfl dX6_copyFrom_78 ?_
  refine QW.bipush (6 : Int32) rfl dX6_copyFrom_79 ?_
  refine FW.copy dX6_copyFrom_81 lyX6_37 sA_5 sA_13 (by decide) (Nat.le_of_ble_eq_true rfl) (by decide) ?_
  refine QW.aload_n dX6_copyFrom_84 rfl ?_
  refine FW.getR dX6_copyFrom_85 lfX6_28 sR_1_7 ?_
  refine QW.iconst (0 : Int32) rfl dX6_copyFrom_88 ?_
  refine QW.aload_n dX6_copyFrom_89 rfl ?_
  refine FW.getR dX6_copyFrom_90 lfX6_28 sR_9_7 ?_
  refine QW.iconst (0 : Int32) rfl dX6_copyFrom_93 ?_
  refine QW.bipush (6 : Int32) rfl dX6_copyFrom_94 ?_
  refine FW.copy dX6_copyFrom_96 lyX6_37 sA_6 sA_14 (by decide) (Nat.le_of_ble_eq_true rfl) (by decide) ?_
  exact FW.retV dX6_copyFrom_99 rfl vc
theorem vX5_nextToken_0 {g : QG} {K : Hp → Prop} {h : Hp} (vc : FW g mX5_nextToken 8 [some (.ref 7)] [] (q_up h 7 4 (h 7 5)) (q_RV K)) : FW g mX5_nextToken 0 [some (.ref 7)] [] h (q_RV K) := by
  refine QW.aload_n dX5_nextToken_0 rfl ?_
  refine QW.aload_n dX5_nextToken_1 rfl ?_
  refine FW.getI (h 7 5) dX5_nextToken_2 lfX5_33 sI_7_5 rfl ?_
  refine FW.putI dX5_nextToken_5 lfX5_43 sP_7_4 ?_
  exact vc
theorem vX5_nextToken_8 {g : QG} {K : Hp → Prop} {h : Hp} (vc : ((h 7 1) ≤ (h 7 4) → FW g mX5_nextToken 54 [some (.ref 7)] [] (q_up h 7 5 (h 7 4)) (q_RV K)) ∧ (¬ (h 7 1) ≤ (h 7 4) → vp_in (h 7 4) 200 ∧ (¬ (h 8 ((h 7 4).toNatClampNeg)) = (32 : Int32) → FW g mX5_nextToken 54 [some (.ref 7)] [] (q_up h 7 5 (h 7 4)) (q_RV K)) ∧ ((h 8 ((h 7 4).toNatClampNeg)) = (32 : Int32) → FW g mX5_nextToken 8 [some (.ref 7)] [] (q_up h 7 4 ((h 7 4) + (1 : Int32))) (q_RV K)))) : FW g mX5_nextToken 8 [some (.ref 7)] [] h (q_RV K) := by
  refine QW.aload_n dX5_nextToken_8 rfl ?_
  refine FW.getI (h 7 4) dX5_nextToken_9 lfX5_43 sI_7_4 rfl ?_
  refine QW.aload_n dX5_nextToken_12 rfl ?_
  refine FW.getI (h 7 1) dX5_nextToken_13 lfX5_25 sI_7_1 rfl ?_
  refine QW.icmp_ge 46 dX5_nextToken_16 rfl (fun hc => ?_) (fun hc => ?_)
  · replace vc := vc.1 hc
    refine QW.aload_n dX5_nextToken_46 rfl ?_
    refine QW.aload_n dX5_nextToken_47 rfl ?_
    refine FW.getI (h 7 4) dX5_nextToken_48 lfX5_43 sI_7_4 rfl ?_
    refine FW.putI dX5_nextToken_51 lfX5_33 sP_7_5 ?_
    exact vc
  · replace vc := vc.2 hc
    refine QW.aload_n dX5_nextToken_19 rfl ?_
    refine FW.getR dX5_nextToken_20 lfX5_9 sR_7_0 ?_
    refine QW.aload_n dX5_nextToken_23 rfl ?_
    refine FW.getI (h 7 4) dX5_nextToken_24 lfX5_43 sI_7_4 rfl ?_
    refine FW.iald (h 8 ((h 7 4).toNatClampNeg)) dX5_nextToken_27 sA_8 vc.1 rfl ?_
    replace vc := vc.2
    refine QW.bipush (32 : Int32) rfl dX5_nextToken_28 ?_
    refine QW.icmp_ne 46 dX5_nextToken_30 rfl (fun hc => ?_) (fun hc => ?_)
    · replace vc := vc.1 hc
      refine QW.aload_n dX5_nextToken_46 rfl ?_
      refine QW.aload_n dX5_nextToken_47 rfl ?_
      refine FW.getI (h 7 4) dX5_nextToken_48 lfX5_43 sI_7_4 rfl ?_
      refine FW.putI dX5_nextToken_51 lfX5_33 sP_7_5 ?_
      exact vc
    · replace vc := vc.2 hc
      refine QW.aload_n dX5_nextToken_33 rfl ?_
      refine QW.dupr dX5_nextToken_34 ?_
      refine FW.getI (h 7 4) dX5_nextToken_35 lfX5_43 sI_7_4 rfl ?_
      refine QW.iconst (1 : Int32) rfl dX5_nextToken_38 ?_
      refine QW.iadd dX5_nextToken_39 ?_
      refine FW.putI dX5_nextToken_40 lfX5_43 sP_7_4 ?_
      refine QW.goto 8 dX5_nextToken_43 rfl ?_
      exact vc
theorem vX5_nextToken_54 {g : QG} {K : Hp → Prop} {h : Hp} (vc : ((h 7 1) ≤ (h 7 5) → ((h 7 5) ≤ (h 7 4) → FW g mX5_nextToken 105 [some (.ref 7)] [] h (q_RV K)) ∧ (¬ (h 7 5) ≤ (h 7 4) → K h)) ∧ (¬ (h 7 1) ≤ (h 7 5) → vp_in (h 7 5) 200 ∧ FI g mX5_isLetter [.int (h 8 ((h 7 5).toNatClampNeg))] h (fun x1 h1 => (x1 = 0 → ((h1 7 5) ≤ (h1 7 4) → FW g mX5_nextToken 105 [some (.ref 7)] [] h1 (q_RV K)) ∧ (¬ (h1 7 5) ≤ (h1 7 4) → K h1)) ∧ (¬ x1 = 0 → FW g mX5_nextToken 54 [some (.ref 7)] [] (q_up h1 7 5 ((h1 7 5) + (1 : Int32))) (q_RV K))))) : FW g mX5_nextToken 54 [some (.ref 7)] [] h (q_RV K) := by
  refine QW.aload_n dX5_nextToken_54 rfl ?_
  refine FW.getI (h 7 5) dX5_nextToken_55 lfX5_33 sI_7_5 rfl ?_
  refine QW.aload_n dX5_nextToken_58 rfl ?_
  refine FW.getI (h 7 1) dX5_nextToken_59 lfX5_25 sI_7_1 rfl ?_
  refine QW.icmp_ge 93 dX5_nextToken_62 rfl (fun hc => ?_) (fun hc => ?_)
  · replace vc := vc.1 hc
    refine QW.aload_n dX5_nextToken_93 rfl ?_
    refine FW.getI (h 7 5) dX5_nextToken_94 lfX5_33 sI_7_5 rfl ?_
    refine QW.aload_n dX5_nextToken_97 rfl ?_
    refine FW.getI (h 7 4) dX5_nextToken_98 lfX5_43 sI_7_4 rfl ?_
    refine QW.icmp_le 105 dX5_nextToken_101 rfl (fun hc => ?_) (fun hc => ?_)
    · replace vc := vc.1 hc
      exact vc
    · replace vc := vc.2 hc
      exact FW.retV dX5_nextToken_104 rfl vc
  · replace vc := vc.2 hc
    refine QW.aload_n dX5_nextToken_65 rfl ?_
    refine FW.getR dX5_nextToken_66 lfX5_9 sR_7_0 ?_
    refine QW.aload_n dX5_nextToken_69 rfl ?_
    refine FW.getI (h 7 5) dX5_nextToken_70 lfX5_33 sI_7_5 rfl ?_
    refine FW.iald (h 8 ((h 7 5).toNatClampNeg)) dX5_nextToken_73 sA_8 vc.1 rfl ?_
    replace vc := vc.2
    refine FW.callSi [.int (h 8 ((h 7 5).toNatClampNeg))] [] rfl dX5_nextToken_74 lmX5_49 rfl ⟨Nat.le_of_ble_eq_true rfl, Nat.le_of_ble_eq_true rfl⟩ ⟨rfl, rfl⟩ (Nat.le_of_ble_eq_true rfl) (FI.mono (fun x1 h1 vc => ?_) vc)
    refine QW.if_eq 93 dX5_nextToken_77 rfl (fun hc => ?_) (fun hc => ?_)
    · replace vc := vc.1 hc
      refine QW.aload_n dX5_nextToken_93 rfl ?_
      refine FW.getI (h1 7 5) dX5_nextToken_94 lfX5_33 sI_7_5 rfl ?_
      refine QW.aload_n dX5_nextToken_97 rfl ?_
      refine FW.getI (h1 7 4) dX5_nextToken_98 lfX5_43 sI_7_4 rfl ?_
      refine QW.icmp_le 105 dX5_nextToken_101 rfl (fun hc => ?_) (fun hc => ?_)
      · replace vc := vc.1 hc
        exact vc
      · replace vc := vc.2 hc
        exact FW.retV dX5_nextToken_104 rfl vc
    · replace vc := vc.2 hc
      refine QW.aload_n dX5_nextToken_80 rfl ?_
      refine QW.dupr dX5_nextToken_81 ?_
      refine FW.getI (h1 7 5) dX5_nextToken_82 lfX5_33 sI_7_5 rfl ?_
      refine QW.iconst (1 : Int32) rfl dX5_nextToken_85 ?_
      refine QW.iadd dX5_nextToken_86 ?_
      refine FW.putI dX5_nextToken_87 lfX5_33 sP_7_5 ?_
      refine QW.goto 54 dX5_nextToken_90 rfl ?_
      exact vc
theorem vX5_nextToken_105 {g : QG} {K : Hp → Prop} {h : Hp} (vc : ((h 7 1) ≤ (h 7 5) → FW g mX5_nextToken 144 [some (.ref 7)] [] h (q_RV K)) ∧ (¬ (h 7 1) ≤ (h 7 5) → vp_in (h 7 5) 200 ∧ FI g mX5_isDigit [.int (h 8 ((h 7 5).toNatClampNeg))] h (fun x1 h1 => (x1 = 0 → FW g mX5_nextToken 144 [some (.ref 7)] [] h1 (q_RV K)) ∧ (¬ x1 = 0 → FW g mX5_nextToken 105 [some (.ref 7)] [] (q_up h1 7 5 ((h1 7 5) + (1 : Int32))) (q_RV K))))) : FW g mX5_nextToken 105 [some (.ref 7)] [] h (q_RV K) := by
  refine QW.aload_n dX5_nextToken_105 rfl ?_
  refine FW.getI (h 7 5) dX5_nextToken_106 lfX5_33 sI_7_5 rfl ?_
  refine QW.aload_n dX5_nextToken_109 rfl ?_
  refine FW.getI (h 7 1) dX5_nextToken_110 lfX5_25 sI_7_1 rfl ?_
  refine QW.icmp_ge 144 dX5_nextToken_113 rfl (fun hc => ?_) (fun hc => ?_)
  · replace vc := vc.1 hc
    exact vc
  · replace vc := vc.2 hc
    refine QW.aload_n dX5_nextToken_116 rfl ?_
    refine FW.getR dX5_nextToken_117 lfX5_9 sR_7_0 ?_
    refine QW.aload_n dX5_nextToken_120 rfl ?_
    refine FW.getI (h 7 5) dX5_nextToken_121 lfX5_33 sI_7_5 rfl ?_
    refine FW.iald (h 8 ((h 7 5).toNatClampNeg)) dX5_nextToken_124 sA_8 vc.1 rfl ?_
    replace vc := vc.2
    refine FW.callSi [.int (h 8 ((h 7 5).toNatClampNeg))] [] rfl dX5_nextToken_125 lmX5_53 rfl ⟨Nat.le_of_ble_eq_true rfl, Nat.le_of_ble_eq_true rfl⟩ ⟨rfl, rfl⟩ (Nat.le_of_ble_eq_true rfl) (FI.mono (fun x1 h1 vc => ?_) vc)
    refine QW.if_eq 144 dX5_nextToken_128 rfl (fun hc => ?_) (fun hc => ?_)
    · replace vc := vc.1 hc
      exact vc
    · replace vc := vc.2 hc
      refine QW.aload_n dX5_nextToken_131 rfl ?_
      refine QW.dupr dX5_nextToken_132 ?_
      refine FW.getI (h1 7 5) dX5_nextToken_133 lfX5_33 sI_7_5 rfl ?_
      refine QW.iconst (1 : Int32) rfl dX5_nextToken_136 ?_
      refine QW.iadd dX5_nextToken_137 ?_
      refine FW.putI dX5_nextToken_138 lfX5_33 sP_7_5 ?_
      refine QW.goto 105 dX5_nextToken_141 rfl ?_
      exact vc
theorem vX5_nextToken_144 {g : QG} {K : Hp → Prop} {h : Hp} (vc : (¬ (h 7 5) = (h 7 4) → K h) ∧ ((h 7 5) = (h 7 4) → ((h 7 1) ≤ (h 7 5) → K h) ∧ (¬ (h 7 1) ≤ (h 7 5) → K (q_up h 7 5 ((h 7 5) + (1 : Int32)))))) : FW g mX5_nextToken 144 [some (.ref 7)] [] h (q_RV K) := by
  refine QW.aload_n dX5_nextToken_144 rfl ?_
  refine FW.getI (h 7 5) dX5_nextToken_145 lfX5_33 sI_7_5 rfl ?_
  refine QW.aload_n dX5_nextToken_148 rfl ?_
  refine FW.getI (h 7 4) dX5_nextToken_149 lfX5_43 sI_7_4 rfl ?_
  refine QW.icmp_ne 176 dX5_nextToken_152 rfl (fun hc => ?_) (fun hc => ?_)
  · replace vc := vc.1 hc
    exact FW.retV dX5_nextToken_176 rfl vc
  · replace vc := vc.2 hc
    refine QW.aload_n dX5_nextToken_155 rfl ?_
    refine FW.getI (h 7 5) dX5_nextToken_156 lfX5_33 sI_7_5 rfl ?_
    refine QW.aload_n dX5_nextToken_159 rfl ?_
    refine FW.getI (h 7 1) dX5_nextToken_160 lfX5_25 sI_7_1 rfl ?_
    refine QW.icmp_ge 176 dX5_nextToken_163 rfl (fun hc => ?_) (fun hc => ?_)
    · replace vc := vc.1 hc
      exact FW.retV dX5_nextToken_176 rfl vc
    · replace vc := vc.2 hc
      refine QW.aload_n dX5_nextToken_166 rfl ?_
      refine QW.dupr dX5_nextToken_167 ?_
      refine FW.getI (h 7 5) dX5_nextToken_168 lfX5_33 sI_7_5 rfl ?_
      refine QW.iconst (1 : Int32) rfl dX5_nextToken_171 ?_
      refine QW.iadd dX5_nextToken_172 ?_
      refine FW.putI dX5_nextToken_173 lfX5_33 sP_7_5 ?_
      exact FW.retV dX5_nextToken_176 rfl vc
theorem vX8_isGuestWord_0 {g : QG} {K : Int32 → Hp → Prop} {h : Hp} {a0 : Int32} (vc : FI g mX8_in [.long a0.toInt64, .long (3 : Int64), .long (6 : Int64)] h (fun x1 h1 => q_bool x1 ∧ K x1 h1)) : FW g mX8_isGuestWord 0 [some (.int a0)] [] h (q_RI K) := by
  refine QW.iload_n dX8_isGuestWord_0 rfl ?_
  refine QW.i2l dX8_isGuestWord_1 ?_
  refine QW.ldc2 dX8_isGuestWord_2 lkX8_137 ?_
  refine QW.ldc2 dX8_isGuestWord_5 lkX8_139 ?_
  refine FW.callSi [.long a0.toInt64, .long (3 : Int64), .long (6 : Int64)] [] rfl dX8_isGuestWord_8 lmX8_70 rfl ⟨Nat.le_of_ble_eq_true rfl, Nat.le_of_ble_eq_true rfl⟩ ⟨rfl, rfl⟩ (Nat.le_of_ble_eq_true rfl) (FI.mono (fun x1 h1 vc => ?_) vc)
  exact FW.retZ vc.1 dX8_isGuestWord_11 rfl vc.2
theorem vX6_leastAt_0 {g : QG} {K : Int32 → Hp → Prop} {h : Hp} {a1 a2 a3 : Int32} (vc : (a2 < 0 → K (-1 : Int32) h) ∧ (¬ a2 < 0 → FI g mX6_farthest [.ref 1] h (fun x1 h1 => (a2 ≤ x1 → ((h1 1 0) ≤ (a1 + a2) → FW g mX6_leastAt 38 [some (.ref 1), some (.int a1), some (.int a2), some (.int a3), none, none, none, none] [.int ((a1 + a2) - (h1 1 0))] h1 (q_RI K)) ∧ (¬ (h1 1 0) ≤ (a1 + a2) → FW g mX6_leastAt 38 [some (.ref 1), some (.int a1), some (.int a2), some (.int a3), none, none, none, none] [.int (a1 + a2)] h1 (q_RI K))) ∧ (¬ a2 ≤ x1 → K (-1 : Int32) h1)))) : FW g mX6_leastAt 0 [some (.ref 1), some (.int a1), some (.int a2), some (.int a3), none, none, none, none] [] h (q_RI K) := by
  refine QW.iload_n dX6_leastAt_0 rfl ?_
  refine QW.if_lt 12 dX6_leastAt_1 rfl (fun hc => ?_) (fun hc => ?_)
  · replace vc := vc.1 hc
    refine QW.iconst (-1 : Int32) rfl dX6_leastAt_12 ?_
    exact FW.ret dX6_leastAt_13 rfl vc
  · replace vc := vc.2 hc
    refine QW.iload_n dX6_leastAt_4 rfl ?_
    refine QW.aload_n dX6_leastAt_5 rfl ?_
    refine FW.callVi [] [.int a2] rfl dX6_leastAt_6 lmX6_61 sC_1 rfl ⟨Nat.le_of_ble_eq_true rfl, Nat.le_of_ble_eq_true rfl⟩ ⟨rfl, rfl⟩ (Nat.le_of_ble_eq_true rfl) (FI.mono (fun x1 h1 vc => ?_) vc)
    refine QW.icmp_le 14 dX6_leastAt_9 rfl (fun hc => ?_) (fun hc => ?_)
    · replace vc := vc.1 hc
      refine QW.iload_n dX6_leastAt_14 rfl ?_
      refine QW.iload_n dX6_leastAt_15 rfl ?_
      refine QW.iadd dX6_leastAt_16 ?_
      refine QW.aload_n dX6_leastAt_17 rfl ?_
      refine FW.getI (h1 1 0) dX6_leastAt_18 lfX6_9 sI_1_0 rfl ?_
      refine QW.icmp_ge 30 dX6_leastAt_21 rfl (fun hc => ?_) (fun hc => ?_)
      · replace vc := vc.1 hc
        refine QW.iload_n dX6_leastAt_30 rfl ?_
        refine QW.iload_n dX6_leastAt_31 rfl ?_
        refine QW.iadd dX6_leastAt_32 ?_
        refine QW.aload_n dX6_leastAt_33 rfl ?_
        refine FW.getI (h1 1 0) dX6_leastAt_34 lfX6_9 sI_1_0 rfl ?_
        refine QW.isub dX6_leastAt_37 ?_
        exact vc
      · replace vc := vc.2 hc
        refine QW.iload_n dX6_leastAt_24 rfl ?_
        refine QW.iload_n dX6_leastAt_25 rfl ?_
        refine QW.iadd dX6_leastAt_26 ?_
        refine QW.goto 38 dX6_leastAt_27 rfl ?_
        exact vc
    · replace vc := vc.2 hc
      refine QW.iconst (-1 : Int32) rfl dX6_leastAt_12 ?_
      exact FW.ret dX6_leastAt_13 rfl vc
theorem vX6_leastAt_38 {g : QG} {K : Int32 → Hp → Prop} {h : Hp} {a1 a2 a3 s0 : Int32} (vc : ((a1 - a2) < 0 → (((a1 - a2) + (h 1 0)) ≤ s0 → FW g mX6_leastAt 76 [none, none, none, some (.int a3), some (.int s0), some (.int ((a1 - a2) + (h 1 0))), none, none] [.int ((a1 - a2) + (h 1 0))] h (q_RI K)) ∧ (¬ ((a1 - a2) + (h 1 0)) ≤ s0 → FW g mX6_leastAt 76 [none, none, none, some (.int a3), some (.int s0), some (.int ((a1 - a2) + (h 1 0))), none, none] [.int s0] h (q_RI K))) ∧ (¬ (a1 - a2) < 0 → ((a1 - a2) ≤ s0 → FW g mX6_leastAt 76 [none, none, none, some (.int a3), some (.int s0), some (.int (a1 - a2)), none, none] [.int (a1 - a2)] h (q_RI K)) ∧ (¬ (a1 - a2) ≤ s0 → FW g mX6_leastAt 76 [none, none, none, some (.int a3), some (.int s0), some (.int (a1 - a2)), none, none] [.int s0] h (q_RI K)))) : FW g mX6_leastAt 38 [some (.ref 1), some (.int a1), some (.int a2), some (.int a3), none, none, none, none] [.int s0] h (q_RI K) := by
  refine QW.istore [some (.ref 1), some (.int a1), some (.int a2), some (.int a3), some (.int s0), none, none, none] dX6_leastAt_38 (by decide) rfl rfl ?_
  refine QW.iload_n dX6_leastAt_40 rfl ?_
  refine QW.iload_n dX6_leastAt_41 rfl ?_
  refine QW.isub dX6_leastAt_42 ?_
  refine QW.if_lt 52 dX6_leastAt_43 rfl (fun hc => ?_) (fun hc => ?_)
  · replace vc := vc.1 hc
    refine QW.iload_n dX6_leastAt_52 rfl ?_
    refine QW.iload_n dX6_leastAt_53 rfl ?_
    refine QW.isub dX6_leastAt_54 ?_
    refine QW.aload_n dX6_leastAt_55 rfl ?_
    refine FW.getI (h 1 0) dX6_leastAt_56 lfX6_9 sI_1_0 rfl ?_
    refine QW.iadd dX6_leastAt_59 ?_
    refine QW.istore [some (.ref 1), some (.int a1), some (.int a2), some (.int a3), some (.int s0), some (.int ((a1 - a2) + (h 1 0))), none, none] dX6_leastAt_60 (by decide) rfl rfl ?_
    refine QW.iload dX6_leastAt_62 rfl ?_
    refine QW.iload dX6_leastAt_64 rfl ?_
    refine QW.icmp_ge 74 dX6_leastAt_66 rfl (fun hc => ?_) (fun hc => ?_)
    · replace vc := vc.1 hc
      refine QW.iload dX6_leastAt_74 rfl ?_
      exact QW.sub (by exact ⟨rfl, ⟨rfl, ⟨rfl, trivial⟩⟩⟩) vc
    · replace vc := vc.2 hc
      refine QW.iload dX6_leastAt_69 rfl ?_
      refine QW.goto 76 dX6_leastAt_71 rfl ?_
      exact QW.sub (by exact ⟨rfl, ⟨rfl, ⟨rfl, trivial⟩⟩⟩) vc
  · replace vc := vc.2 hc
    refine QW.iload_n dX6_leastAt_46 rfl ?_
    refine QW.iload_n dX6_leastAt_47 rfl ?_
    refine QW.isub dX6_leastAt_48 ?_
    refine QW.goto 60 dX6_leastAt_49 rfl ?_
    refine QW.istore [some (.ref 1), some (.int a1), some (.int a2), some (.int a3), some (.int s0), some (.int (a1 - a2)), none, none] dX6_leastAt_60 (by decide) rfl rfl ?_
    refine QW.iload dX6_leastAt_62 rfl ?_
    refine QW.iload dX6_leastAt_64 rfl ?_
    refine QW.icmp_ge 74 dX6_leastAt_66 rfl (fun hc => ?_) (fun hc => ?_)
    · replace vc := vc.1 hc
      refine QW.iload dX6_leastAt_74 rfl ?_
      exact QW.sub (by exact ⟨rfl, ⟨rfl, ⟨rfl, trivial⟩⟩⟩) vc
    · replace vc := vc.2 hc
      refine QW.iload dX6_leastAt_69 rfl ?_
      refine QW.goto 76 dX6_leastAt_71 rfl ?_
      exact QW.sub (by exact ⟨rfl, ⟨rfl, ⟨rfl, trivial⟩⟩⟩) vc
theorem vX6_leastAt_76 {g : QG} {K : Int32 → Hp → Prop} {h : Hp} {a3 a4 a5 s0 : Int32} (vc : FI g mX7_holds [.int a3, .int s0] h (fun x1 h1 => (x1 = 0 → FI g mX7_holds [.int a3, .int ((a4 + a5) - s0)] h1 (fun x2 h2 => (x2 = 0 → K (-1 : Int32) h2) ∧ (¬ x2 = 0 → K ((a4 + a5) - s0) h2))) ∧ (¬ x1 = 0 → K s0 h1))) : FW g mX6_leastAt 76 [none, none, none, some (.int a3), some (.int a4), some (.int a5), none, none] [.int s0] h (q_RI K) := by
  refine QW.istore [none, none, none, some (.int a3), some (.int a4), some (.int a5), some (.int s0), none] dX6_leastAt_76 (by decide) rfl rfl ?_
  refine QW.iload_n dX6_leastAt_78 rfl ?_
  refine QW.iload dX6_leastAt_79 rfl ?_
  refine FW.callNi [.int a3, .int s0] [] rfl dX6_leastAt_81 lmX6_47 rfl ⟨Nat.le_of_ble_eq_true rfl, Nat.le_of_ble_eq_true rfl⟩ ⟨rfl, rfl⟩ (Nat.le_of_ble_eq_true rfl) (FI.mono (fun x1 h1 vc => ?_) vc)
  refine QW.if_eq 90 dX6_leastAt_84 rfl (fun hc => ?_) (fun hc => ?_)
  · replace vc := vc.1 hc
    refine QW.iload dX6_leastAt_90 rfl ?_
    refine QW.iload dX6_leastAt_92 rfl ?_
    refine QW.iadd dX6_leastAt_94 ?_
    refine QW.iload dX6_leastAt_95 rfl ?_
    refine QW.isub dX6_leastAt_97 ?_
    refine QW.istore [none, none, none, some (.int a3), some (.int a4), some (.int a5), some (.int s0), some (.int ((a4 + a5) - s0))] dX6_leastAt_98 (by decide) rfl rfl ?_
    refine QW.iload_n dX6_leastAt_100 rfl ?_
    refine QW.iload dX6_leastAt_101 rfl ?_
    refine FW.callNi [.int a3, .int ((a4 + a5) - s0)] [] rfl dX6_leastAt_103 lmX6_47 rfl ⟨Nat.le_of_ble_eq_true rfl, Nat.le_of_ble_eq_true rfl⟩ ⟨rfl, rfl⟩ (Nat.le_of_ble_eq_true rfl) (FI.mono (fun x2 h2 vc => ?_) vc)
    refine QW.if_eq 114 dX6_leastAt_106 rfl (fun hc => ?_) (fun hc => ?_)
    · replace vc := vc.1 hc
      refine QW.iconst (-1 : Int32) rfl dX6_leastAt_114 ?_
      exact FW.ret dX6_leastAt_115 rfl vc
    · replace vc := vc.2 hc
      refine QW.iload dX6_leastAt_109 rfl ?_
      refine QW.goto 115 dX6_leastAt_111 rfl ?_
      exact FW.ret dX6_leastAt_115 rfl vc
  · replace vc := vc.2 hc
    refine QW.iload dX6_leastAt_87 rfl ?_
    exact FW.ret dX6_leastAt_89 rfl vc
theorem vX6_placeAfter_0 {g : QG} {K : Int32 → Hp → Prop} {h : Hp} {a1 a2 a3 : Int32} (vc : (¬ a3 = 0 → FW g mX6_placeAfter 13 [some (.ref 1), none, none, none, none] [.int (a1 - a2)] h (q_RI K)) ∧ (a3 = 0 → FW g mX6_placeAfter 13 [some (.ref 1), none, none, none, none] [.int (a1 + a2)] h (q_RI K))) : FW g mX6_placeAfter 0 [some (.ref 1), some (.int a1), some (.int a2), some (.int a3), none] [] h (q_RI K) := by
  refine QW.iload_n dX6_placeAfter_0 rfl ?_
  refine QW.if_ne 10 dX6_placeAfter_1 rfl (fun hc => ?_) (fun hc => ?_)
  · replace vc := vc.1 hc
    refine QW.iload_n dX6_placeAfter_10 rfl ?_
    refine QW.iload_n dX6_placeAfter_11 rfl ?_
    refine QW.isub dX6_placeAfter_12 ?_
    exact QW.sub (by exact ⟨rfl, trivial⟩) vc
  · replace vc := vc.2 hc
    refine QW.iload_n dX6_placeAfter_4 rfl ?_
    refine QW.iload_n dX6_placeAfter_5 rfl ?_
    refine QW.iadd dX6_placeAfter_6 ?_
    refine QW.goto 13 dX6_placeAfter_7 rfl ?_
    exact QW.sub (by exact ⟨rfl, trivial⟩) vc
theorem vX6_placeAfter_13 {g : QG} {K : Int32 → Hp → Prop} {h : Hp} {s0 : Int32} (vc : ((1 : Int32) ≤ (h 1 0) → FI g mJ9_floorMod_7cf53 [.int s0, .int (h 1 0)] h (fun x1 h1 => K x1 h1)) ∧ (¬ (1 : Int32) ≤ (h 1 0) → K (0 : Int32) h)) : FW g mX6_placeAfter 13 [some (.ref 1), none, none, none, none] [.int s0] h (q_RI K) := by
  refine QW.istore [some (.ref 1), none, none, none, some (.int s0)] dX6_placeAfter_13 (by decide) rfl rfl ?_
  refine QW.aload_n dX6_placeAfter_15 rfl ?_
  refine FW.getI (h 1 0) dX6_placeAfter_16 lfX6_9 sI_1_0 rfl ?_
  refine QW.iconst (1 : Int32) rfl dX6_placeAfter_19 ?_
  refine QW.icmp_ge 27 dX6_placeAfter_20 rfl (fun hc => ?_) (fun hc => ?_)
  · replace vc := vc.1 hc
    refine QW.iload dX6_placeAfter_27 rfl ?_
    refine QW.aload_n dX6_placeAfter_29 rfl ?_
    refine FW.getI (h 1 0) dX6_placeAfter_30 lfX6_9 sI_1_0 rfl ?_
    refine FW.callSi [.int s0, .int (h 1 0)] [] rfl dX6_placeAfter_33 lmX6_55 rfl ⟨Nat.le_of_ble_eq_true rfl, Nat.le_of_ble_eq_true rfl⟩ ⟨rfl, rfl⟩ (Nat.le_of_ble_eq_true rfl) (FI.mono (fun x1 h1 vc => ?_) vc)
    exact FW.ret dX6_placeAfter_36 rfl vc
  · replace vc := vc.2 hc
    refine QW.iconst (0 : Int32) rfl dX6_placeAfter_23 ?_
    refine QW.goto 36 dX6_placeAfter_24 rfl ?_
    exact FW.ret dX6_placeAfter_36 rfl vc
theorem vX2_minutesLike_0 {g : QG} {K : Int32 → Hp → Prop} {h : Hp} {a1 a2 a3 : Int32} (vc : FI g mX2_minutesLikeTo [.ref 20, .int a1, .int a3] h (fun x1 h1 => FI g mX2_minutesLikeTo [.ref 20, .int a1, .int (a2 - (1 : Int32))] h1 (fun x2 h2 => K (x1 - x2) h2))) : FW g mX2_minutesLike 0 [some (.ref 20), some (.int a1), some (.int a2), some (.int a3)] [] h (q_RI K) := by
  refine QW.aload_n dX2_minutesLike_0 rfl ?_
  refine QW.iload_n dX2_minutesLike_1 rfl ?_
  refine QW.iload_n dX2_minutesLike_2 rfl ?_
  refine FW.callVi [.int a1, .int a3] [] rfl dX2_minutesLike_3 lmX2_94 sC_20 rfl ⟨Nat.le_of_ble_eq_true rfl, Nat.le_of_ble_eq_true rfl⟩ ⟨rfl, rfl⟩ (Nat.le_of_ble_eq_true rfl) (FI.mono (fun x1 h1 vc => ?_) vc)
  refine QW.aload_n dX2_minutesLike_6 rfl ?_
  refine QW.iload_n dX2_minutesLike_7 rfl ?_
  refine QW.iload_n dX2_minutesLike_8 rfl ?_
  refine QW.iconst (1 : Int32) rfl dX2_minutesLike_9 ?_
  refine QW.isub dX2_minutesLike_10 ?_
  refine FW.callVi [.int a1, .int (a2 - (1 : Int32))] [.int x1] rfl dX2_minutesLike_11 lmX2_94 sC_20 rfl ⟨Nat.le_of_ble_eq_true rfl, Nat.le_of_ble_eq_true rfl⟩ ⟨rfl, rfl⟩ (Nat.le_of_ble_eq_true rfl) (FI.mono (fun x2 h2 vc => ?_) vc)
  refine QW.isub dX2_minutesLike_14 ?_
  exact FW.ret dX2_minutesLike_15 rfl vc
theorem vX2_addTimes_0 {g : QG} {K : Hp → Prop} {h : Hp} {a1 a2 : Int32} (vc : FW g mX2_addTimes 2 [some (.ref 20), some (.int a1), some (.int a2), some (.int (0 : Int32))] [] h (q_RV K)) : FW g mX2_addTimes 0 [some (.ref 20), some (.int a1), some (.int a2), none] [] h (q_RV K) := by
  refine QW.iconst (0 : Int32) rfl dX2_addTimes_0 ?_
  refine QW.istore_n [some (.ref 20), some (.int a1), some (.int a2), some (.int (0 : Int32))] dX2_addTimes_1 (by decide) rfl rfl ?_
  exact vc
theorem vX2_addTimes_2 {g : QG} {K : Hp → Prop} {h : Hp} {a1 a2 a3 : Int32} (vc : ((h 1 2) ≤ a3 → K h) ∧ (¬ (h 1 2) ≤ a3 → FI g mX7_holds [.int a1, .int a3] h (fun x1 h1 => (x1 = 0 → FW g mX2_addTimes 2 [some (.ref 20), some (.int a1), some (.int a2), some (.int (a3 + (1 : Int32)))] [] h1 (q_RV K)) ∧ (¬ x1 = 0 → vp_in a3 6 ∧ vp_in a3 6 ∧ FW g mX2_addTimes 2 [some (.ref 20), some (.int a1), some (.int a2), some (.int (a3 + (1 : Int32)))] [] (q_up h1 23 a3.toNatClampNeg ((h1 23 a3.toNatClampNeg) + a2)) (q_RV K))))) : FW g mX2_addTimes 2 [some (.ref 20), some (.int a1), some (.int a2), some (.int a3)] [] h (q_RV K) := by
  refine QW.iload_n dX2_addTimes_2 rfl ?_
  refine QW.aload_n dX2_addTimes_3 rfl ?_
  refine FW.getR dX2_addTimes_4 lfX2_21 sR_20_0 ?_
  refine FW.getI (h 1 2) dX2_addTimes_7 lfX2_61 sI_1_2 rfl ?_
  refine QW.icmp_ge 37 dX2_addTimes_10 rfl (fun hc => ?_) (fun hc => ?_)
  · replace vc := vc.1 hc
    exact FW.retV dX2_addTimes_37 rfl vc
  · replace vc := vc.2 hc
    refine QW.iload_n dX2_addTimes_13 rfl ?_
    refine QW.iload_n dX2_addTimes_14 rfl ?_
    refine FW.callNi [.int a1, .int a3] [] rfl dX2_addTimes_15 lmX2_90 rfl ⟨Nat.le_of_ble_eq_true rfl, Nat.le_of_ble_eq_true rfl⟩ ⟨rfl, rfl⟩ (Nat.le_of_ble_eq_true rfl) (FI.mono (fun x1 h1 vc => ?_) vc)
    refine QW.if_eq 31 dX2_addTimes_18 rfl (fun hc => ?_) (fun hc => ?_)
    · replace vc := vc.1 hc
      refine QW.iinc (a3 + (1 : Int32)) [some (.ref 20), some (.int a1), some (.int a2), some (.int (a3 + (1 : Int32)))] dX2_addTimes_31 rfl rfl (by decide) rfl rfl ?_
      refine QW.goto 2 dX2_addTimes_34 rfl ?_
      exact vc
    · replace vc := vc.2 hc
      refine QW.aload_n dX2_addTimes_21 rfl ?_
      refine FW.getR dX2_addTimes_22 lfX2_18 sR_20_4 ?_
      refine QW.iload_n dX2_addTimes_25 rfl ?_
      refine QW.dup2ir dX2_addTimes_26 ?_
      refine FW.iald (h1 23 a3.toNatClampNeg) dX2_addTimes_27 sA_23 vc.1 rfl ?_
      replace vc := vc.2
      refine QW.iload_n dX2_addTimes_28 rfl ?_
      refine QW.iadd dX2_addTimes_29 ?_
      refine FW.iast dX2_addTimes_30 sA_23 vc.1 ?_
      replace vc := vc.2
      refine QW.iinc (a3 + (1 : Int32)) [some (.ref 20), some (.int a1), some (.int a2), some (.int (a3 + (1 : Int32)))] dX2_addTimes_31 rfl rfl (by decide) rfl rfl ?_
      refine QW.goto 2 dX2_addTimes_34 rfl ?_
      exact vc
theorem vX2_spread_0 {g : QG} {K : Int32 → Hp → Prop} {h : Hp} (vc : FW g mX2_spread 7 [some (.ref 20), some (.int (0 : Int32)), some (.int (100 : Int32)), some (.int (0 : Int32))] [] h (q_RI K)) : FW g mX2_spread 0 [some (.ref 20), none, none, none] [] h (q_RI K) := by
  refine QW.iconst (0 : Int32) rfl dX2_spread_0 ?_
  refine QW.istore_n [some (.ref 20), some (.int (0 : Int32)), none, none] dX2_spread_1 (by decide) rfl rfl ?_
  refine QW.bipush (100 : Int32) rfl dX2_spread_2 ?_
  refine QW.istore_n [some (.ref 20), some (.int (0 : Int32)), some (.int (100 : Int32)), none] dX2_spread_4 (by decide) rfl rfl ?_
  refine QW.iconst (0 : Int32) rfl dX2_spread_5 ?_
  refine QW.istore_n [some (.ref 20), some (.int (0 : Int32)), some (.int (100 : Int32)), some (.int (0 : Int32))] dX2_spread_6 (by decide) rfl rfl ?_
  exact vc
theorem vX2_spread_7 {g : QG} {K : Int32 → Hp → Prop} {h : Hp} {a1 a2 a3 : Int32} (vc : ((h 1 2) ≤ a3 → (¬ (h 1 2) = 0 → K (a1 - a2) h) ∧ ((h 1 2) = 0 → K (0 : Int32) h)) ∧ (¬ (h 1 2) ≤ a3 → vp_in a3 6 ∧ FI g mJ9_max_7cf53 [.int a1, .int (h 23 a3.toNatClampNeg)] h (fun x1 h1 => vp_in a3 6 ∧ FI g mJ9_min_7cf53 [.int a2, .int (h1 23 a3.toNatClampNeg)] h1 (fun x2 h2 => FW g mX2_spread 7 [some (.ref 20), some (.int x1), some (.int x2), some (.int (a3 + (1 : Int32)))] [] h2 (q_RI K))))) : FW g mX2_spread 7 [some (.ref 20), some (.int a1), some (.int a2), some (.int a3)] [] h (q_RI K) := by
  refine QW.iload_n dX2_spread_7 rfl ?_
  refine QW.aload_n dX2_spread_8 rfl ?_
  refine FW.getR dX2_spread_9 lfX2_21 sR_20_0 ?_
  refine FW.getI (h 1 2) dX2_spread_12 lfX2_61 sI_1_2 rfl ?_
  refine QW.icmp_ge 46 dX2_spread_15 rfl (fun hc => ?_) (fun hc => ?_)
  · replace vc := vc.1 hc
    refine QW.aload_n dX2_spread_46 rfl ?_
    refine FW.getR dX2_spread_47 lfX2_21 sR_20_0 ?_
    refine FW.getI (h 1 2) dX2_spread_50 lfX2_61 sI_1_2 rfl ?_
    refine QW.if_ne 60 dX2_spread_53 rfl (fun hc => ?_) (fun hc => ?_)
    · replace vc := vc.1 hc
      refine QW.iload_n dX2_spread_60 rfl ?_
      refine QW.iload_n dX2_spread_61 rfl ?_
      refine QW.isub dX2_spread_62 ?_
      exact FW.ret dX2_spread_63 rfl vc
    · replace vc := vc.2 hc
      refine QW.iconst (0 : Int32) rfl dX2_spread_56 ?_
      refine QW.goto 63 dX2_spread_57 rfl ?_
      exact FW.ret dX2_spread_63 rfl vc
  · replace vc := vc.2 hc
    refine QW.iload_n dX2_spread_18 rfl ?_
    refine QW.aload_n dX2_spread_19 rfl ?_
    refine FW.getR dX2_spread_20 lfX2_18 sR_20_4 ?_
    refine QW.iload_n dX2_spread_23 rfl ?_
    refine FW.iald (h 23 a3.toNatClampNeg) dX2_spread_24 sA_23 vc.1 rfl ?_
    replace vc := vc.2
    refine FW.callSi [.int a1, .int (h 23 a3.toNatClampNeg)] [] rfl dX2_spread_25 lmX2_97 rfl ⟨Nat.le_of_ble_eq_true rfl, Nat.le_of_ble_eq_true rfl⟩ ⟨rfl, rfl⟩ (Nat.le_of_ble_eq_true rfl) (FI.mono (fun x1 h1 vc => ?_) vc)
    refine QW.istore_n [some (.ref 20), some (.int x1), some (.int a2), some (.int a3)] dX2_spread_28 (by decide) rfl rfl ?_
    refine QW.iload_n dX2_spread_29 rfl ?_
    refine QW.aload_n dX2_spread_30 rfl ?_
    refine FW.getR dX2_spread_31 lfX2_18 sR_20_4 ?_
    refine QW.iload_n dX2_spread_34 rfl ?_
    refine FW.iald (h1 23 a3.toNatClampNeg) dX2_spread_35 sA_23 vc.1 rfl ?_
    replace vc := vc.2
    refine FW.callSi [.int a2, .int (h1 23 a3.toNatClampNeg)] [] rfl dX2_spread_36 lmX2_102 rfl ⟨Nat.le_of_ble_eq_true rfl, Nat.le_of_ble_eq_true rfl⟩ ⟨rfl, rfl⟩ (Nat.le_of_ble_eq_true rfl) (FI.mono (fun x2 h2 vc => ?_) vc)
    refine QW.istore_n [some (.ref 20), some (.int x1), some (.int x2), some (.int a3)] dX2_spread_39 (by decide) rfl rfl ?_
    refine QW.iinc (a3 + (1 : Int32)) [some (.ref 20), some (.int x1), some (.int x2), some (.int (a3 + (1 : Int32)))] dX2_spread_40 rfl rfl (by decide) rfl rfl ?_
    refine QW.goto 7 dX2_spread_43 rfl ?_
    exact vc
theorem vX8_guestWord_0 {g : QG} {K : Int32 → Hp → Prop} {h : Hp} (vc : FI g mX8_isWord [.ref 44, .int (14976400 : Int32), .int (5 : Int32)] h (fun x1 h1 => (x1 = 0 → FI g mX8_isWord [.ref 44, .int (26003 : Int32), .int (3 : Int32)] h1 (fun x2 h2 => (x2 = 0 → FI g mX8_isWord [.ref 44, .int (21439526 : Int32), .int (5 : Int32)] h2 (fun x3 h3 => (x3 = 0 → FI g mX8_isWord [.ref 44, .int (21675667 : Int32), .int (5 : Int32)] h3 (fun x4 h4 => (x4 = 0 → K (-1 : Int32) h4) ∧ (¬ x4 = 0 → K (6 : Int32) h4))) ∧ (¬ x3 = 0 → K (5 : Int32) h3))) ∧ (¬ x2 = 0 → K (4 : Int32) h2))) ∧ (¬ x1 = 0 → K (3 : Int32) h1))) : FW g mX8_guestWord 0 [some (.ref 44)] [] h (q_RI K) := by
  refine QW.aload_n dX8_guestWord_0 rfl ?_
  refine QW.ldc dX8_guestWord_1 lkX8_97 ?_
  refine QW.iconst (5 : Int32) rfl dX8_guestWord_3 ?_
  refine FW.callVi [.int (14976400 : Int32), .int (5 : Int32)] [] rfl dX8_guestWord_4 lmX8_98 sC_44 rfl ⟨Nat.le_of_ble_eq_true rfl, Nat.le_of_ble_eq_true rfl⟩ ⟨rfl, rfl⟩ (Nat.le_of_ble_eq_true rfl) (FI.mono (fun x1 h1 vc => ?_) vc)
  refine QW.if_eq 14 dX8_guestWord_7 rfl (fun hc => ?_) (fun hc => ?_)
  · replace vc := vc.1 hc
    refine QW.aload_n dX8_guestWord_14 rfl ?_
    refine QW.sipush (26003 : Int32) rfl dX8_guestWord_15 ?_
    refine QW.iconst (3 : Int32) rfl dX8_guestWord_18 ?_
    refine FW.callVi [.int (26003 : Int32), .int (3 : Int32)] [] rfl dX8_guestWord_19 lmX8_98 sC_44 rfl ⟨Nat.le_of_ble_eq_true rfl, Nat.le_of_ble_eq_true rfl⟩ ⟨rfl, rfl⟩ (Nat.le_of_ble_eq_true rfl) (FI.mono (fun x2 h2 vc => ?_) vc)
    refine QW.if_eq 29 dX8_guestWord_22 rfl (fun hc => ?_) (fun hc => ?_)
    · replace vc := vc.1 hc
      refine QW.aload_n dX8_guestWord_29 rfl ?_
      refine QW.ldc dX8_guestWord_30 lkX8_102 ?_
      refine QW.iconst (5 : Int32) rfl dX8_guestWord_32 ?_
      refine FW.callVi [.int (21439526 : Int32), .int (5 : Int32)] [] rfl dX8_guestWord_33 lmX8_98 sC_44 rfl ⟨Nat.le_of_ble_eq_true rfl, Nat.le_of_ble_eq_true rfl⟩ ⟨rfl, rfl⟩ (Nat.le_of_ble_eq_true rfl) (FI.mono (fun x3 h3 vc => ?_) vc)
      refine QW.if_eq 43 dX8_guestWord_36 rfl (fun hc => ?_) (fun hc => ?_)
      · replace vc := vc.1 hc
        refine QW.aload_n dX8_guestWord_43 rfl ?_
        refine QW.ldc dX8_guestWord_44 lkX8_103 ?_
        refine QW.iconst (5 : Int32) rfl dX8_guestWord_46 ?_
        refine FW.callVi [.int (21675667 : Int32), .int (5 : Int32)] [] rfl dX8_guestWord_47 lmX8_98 sC_44 rfl ⟨Nat.le_of_ble_eq_true rfl, Nat.le_of_ble_eq_true rfl⟩ ⟨rfl, rfl⟩ (Nat.le_of_ble_eq_true rfl) (FI.mono (fun x4 h4 vc => ?_) vc)
        refine QW.if_eq 58 dX8_guestWord_50 rfl (fun hc => ?_) (fun hc => ?_)
        · replace vc := vc.1 hc
          refine QW.iconst (-1 : Int32) rfl dX8_guestWord_58 ?_
          exact FW.ret dX8_guestWord_59 rfl vc
        · replace vc := vc.2 hc
          refine QW.bipush (6 : Int32) rfl dX8_guestWord_53 ?_
          refine QW.goto 59 dX8_guestWord_55 rfl ?_
          exact FW.ret dX8_guestWord_59 rfl vc
      · replace vc := vc.2 hc
        refine QW.iconst (5 : Int32) rfl dX8_guestWord_39 ?_
        refine QW.goto 59 dX8_guestWord_40 rfl ?_
        exact FW.ret dX8_guestWord_59 rfl vc
    · replace vc := vc.2 hc
      refine QW.iconst (4 : Int32) rfl dX8_guestWord_25 ?_
      refine QW.goto 59 dX8_guestWord_26 rfl ?_
      exact FW.ret dX8_guestWord_59 rfl vc
  · replace vc := vc.2 hc
    refine QW.iconst (3 : Int32) rfl dX8_guestWord_10 ?_
    refine QW.goto 59 dX8_guestWord_11 rfl ?_
    exact FW.ret dX8_guestWord_59 rfl vc
theorem vX8_numberHere_0 {g : QG} {K : Int32 → Hp → Prop} {h : Hp} (vc : ((h 44 15) = (h 44 3) → K (-1 : Int32) h) ∧ (¬ (h 44 15) = (h 44 3) → vp_in (h 44 15) 200 ∧ FI g mX8_sort [.int (h 47 ((h 44 15).toNatClampNeg))] h (fun x1 h1 => (¬ x1 = (2 : Int32) → K (-1 : Int32) h1) ∧ (x1 = (2 : Int32) → (((h1 44 16) - (h1 44 15)) ≤ (2 : Int32) → FW g mX8_numberHere 49 [some (.ref 44), some (.int (0 : Int32)), some (.int (h1 44 15))] [] h1 (q_RI K)) ∧ (¬ ((h1 44 16) - (h1 44 15)) ≤ (2 : Int32) → K (-1 : Int32) h1))))) : FW g mX8_numberHere 0 [some (.ref 44), none, none] [] h (q_RI K) := by
  refine QW.aload_n dX8_numberHere_0 rfl ?_
  refine FW.getI (h 44 15) dX8_numberHere_1 lfX8_87 sI_44_15 rfl ?_
  refine QW.aload_n dX8_numberHere_4 rfl ?_
  refine FW.getI (h 44 3) dX8_numberHere_5 lfX8_79 sI_44_3 rfl ?_
  refine QW.icmp_eq 40 dX8_numberHere_8 rfl (fun hc => ?_) (fun hc => ?_)
  · replace vc := vc.1 hc
    refine QW.iconst (-1 : Int32) rfl dX8_numberHere_40 ?_
    exact FW.ret dX8_numberHere_41 rfl vc
  · replace vc := vc.2 hc
    refine QW.aload_n dX8_numberHere_11 rfl ?_
    refine FW.getR dX8_numberHere_12 lfX8_17 sR_44_2 ?_
    refine QW.aload_n dX8_numberHere_15 rfl ?_
    refine FW.getI (h 44 15) dX8_numberHere_16 lfX8_87 sI_44_15 rfl ?_
    refine FW.iald (h 47 ((h 44 15).toNatClampNeg)) dX8_numberHere_19 sA_47 vc.1 rfl ?_
    replace vc := vc.2
    refine FW.callSi [.int (h 47 ((h 44 15).toNatClampNeg))] [] rfl dX8_numberHere_20 lmX8_90 rfl ⟨Nat.le_of_ble_eq_true rfl, Nat.le_of_ble_eq_true rfl⟩ ⟨rfl, rfl⟩ (Nat.le_of_ble_eq_true rfl) (FI.mono (fun x1 h1 vc => ?_) vc)
    refine QW.iconst (2 : Int32) rfl dX8_numberHere_23 ?_
    refine QW.icmp_ne 40 dX8_numberHere_24 rfl (fun hc => ?_) (fun hc => ?_)
    · replace vc := vc.1 hc
      refine QW.iconst (-1 : Int32) rfl dX8_numberHere_40 ?_
      exact FW.ret dX8_numberHere_41 rfl vc
    · replace vc := vc.2 hc
      refine QW.aload_n dX8_numberHere_27 rfl ?_
      refine FW.getI (h1 44 16) dX8_numberHere_28 lfX8_94 sI_44_16 rfl ?_
      refine QW.aload_n dX8_numberHere_31 rfl ?_
      refine FW.getI (h1 44 15) dX8_numberHere_32 lfX8_87 sI_44_15 rfl ?_
      refine QW.isub dX8_numberHere_35 ?_
      refine QW.iconst (2 : Int32) rfl dX8_numberHere_36 ?_
      refine QW.icmp_le 42 dX8_numberHere_37 rfl (fun hc => ?_) (fun hc => ?_)
      · replace vc := vc.1 hc
        refine QW.iconst (0 : Int32) rfl dX8_numberHere_42 ?_
        refine QW.istore_n [some (.ref 44), some (.int (0 : Int32)), none] dX8_numberHere_43 (by decide) rfl rfl ?_
        refine QW.aload_n dX8_numberHere_44 rfl ?_
        refine FW.getI (h1 44 15) dX8_numberHere_45 lfX8_87 sI_44_15 rfl ?_
        refine QW.istore_n [some (.ref 44), some (.int (0 : Int32)), some (.int (h1 44 15))] dX8_numberHere_48 (by decide) rfl rfl ?_
        exact vc
      · replace vc := vc.2 hc
        refine QW.iconst (-1 : Int32) rfl dX8_numberHere_40 ?_
        exact FW.ret dX8_numberHere_41 rfl vc
theorem vX8_numberHere_49 {g : QG} {K : Int32 → Hp → Prop} {h : Hp} {a1 a2 : Int32} (vc : ((h 44 16) ≤ a2 → K a1 h) ∧ (¬ (h 44 16) ≤ a2 → vp_in a2 200 ∧ FW g mX8_numberHere 49 [some (.ref 44), some (.int ((((10 : Int32) * a1) + (h 47 a2.toNatClampNeg)) - (48 : Int32))), some (.int (a2 + (1 : Int32)))] [] h (q_RI K))) : FW g mX8_numberHere 49 [some (.ref 44), some (.int a1), some (.int a2)] [] h (q_RI K) := by
  refine QW.iload_n dX8_numberHere_49 rfl ?_
  refine QW.aload_n dX8_numberHere_50 rfl ?_
  refine FW.getI (h 44 16) dX8_numberHere_51 lfX8_94 sI_44_16 rfl ?_
  refine QW.icmp_ge 78 dX8_numberHere_54 rfl (fun hc => ?_) (fun hc => ?_)
  · replace vc := vc.1 hc
    refine QW.iload_n dX8_numberHere_78 rfl ?_
    exact FW.ret dX8_numberHere_79 rfl vc
  · replace vc := vc.2 hc
    refine QW.bipush (10 : Int32) rfl dX8_numberHere_57 ?_
    refine QW.iload_n dX8_numberHere_59 rfl ?_
    refine QW.imul dX8_numberHere_60 ?_
    refine QW.aload_n dX8_numberHere_61 rfl ?_
    refine FW.getR dX8_numberHere_62 lfX8_17 sR_44_2 ?_
    refine QW.iload_n dX8_numberHere_65 rfl ?_
    refine FW.iald (h 47 a2.toNatClampNeg) dX8_numberHere_66 sA_47 vc.1 rfl ?_
    replace vc := vc.2
    refine QW.iadd dX8_numberHere_67 ?_
    refine QW.bipush (48 : Int32) rfl dX8_numberHere_68 ?_
    refine QW.isub dX8_numberHere_70 ?_
    refine QW.istore_n [some (.ref 44), some (.int ((((10 : Int32) * a1) + (h 47 a2.toNatClampNeg)) - (48 : Int32))), some (.int a2)] dX8_numberHere_71 (by decide) rfl rfl ?_
    refine QW.iinc (a2 + (1 : Int32)) [some (.ref 44), some (.int ((((10 : Int32) * a1) + (h 47 a2.toNatClampNeg)) - (48 : Int32))), some (.int (a2 + (1 : Int32)))] dX8_numberHere_72 rfl rfl (by decide) rfl rfl ?_
    refine QW.goto 49 dX8_numberHere_75 rfl ?_
    exact vc
theorem vX8_takeSecond_0 {g : QG} {K : Hp → Prop} {h : Hp} {a1 : Int32} (vc : FW g mX8_takeSecond 8 [some (.ref 44), some (.int a1), some (.int (99 : Int32)), some (.int (-1 : Int32)), some (.int (0 : Int32)), none] [] h (q_RV K)) : FW g mX8_takeSecond 0 [some (.ref 44), some (.int a1), none, none, none, none] [] h (q_RV K) := by
  refine QW.bipush (99 : Int32) rfl dX8_takeSecond_0 ?_
  refine QW.istore_n [some (.ref 44), some (.int a1), some (.int (99 : Int32)), none, none, none] dX8_takeSecond_2 (by decide) rfl rfl ?_
  refine QW.iconst (-1 : Int32) rfl dX8_takeSecond_3 ?_
  refine QW.istore_n [some (.ref 44), some (.int a1), some (.int (99 : Int32)), some (.int (-1 : Int32)), none, none] dX8_takeSecond_4 (by decide) rfl rfl ?_
  refine QW.iconst (0 : Int32) rfl dX8_takeSecond_5 ?_
  refine QW.istore [some (.ref 44), some (.int a1), some (.int (99 : Int32)), some (.int (-1 : Int32)), some (.int (0 : Int32)), none] dX8_takeSecond_6 (by decide) rfl rfl ?_
  exact vc
theorem vX8_takeSecond_8 {g : QG} {K : Hp → Prop} {h : Hp} {a1 a2 a3 a4 : Int32} (vc : ((h 44 6) ≤ a4 → vp_in a1 6 ∧ (¬ a3 = (-1 : Int32) → K (q_up (q_up h 56 a1.toNatClampNeg a3) 44 23 ((h 44 23) &&& (((1 : Int32) <<< (a3 &&& 31)) ^^^ (-1 : Int32))))) ∧ (a3 = (-1 : Int32) → K (q_up (q_up h 56 a1.toNatClampNeg a3) 44 23 ((h 44 23) &&& (-1 : Int32))))) ∧ (¬ (h 44 6) ≤ a4 → FI g mX8_has [.int (h 44 23), .int a4] h (fun x1 h1 => (x1 = 0 → (a2 ≤ (99 : Int32) → FW g mX8_takeSecond 60 [some (.ref 44), some (.int a1), some (.int a2), none, some (.int a4), some (.int (99 : Int32))] [.int a3] h1 (q_RV K)) ∧ (¬ a2 ≤ (99 : Int32) → FW g mX8_takeSecond 60 [some (.ref 44), some (.int a1), some (.int a2), none, some (.int a4), some (.int (99 : Int32))] [.int a4] h1 (q_RV K))) ∧ (¬ x1 = 0 → vp_in a1 6 ∧ FI g mX8_far [.ref 44, .int (h1 55 a1.toNatClampNeg), .int a4] h1 (fun x2 h2 => (a2 ≤ x2 → FW g mX8_takeSecond 60 [some (.ref 44), some (.int a1), some (.int a2), none, some (.int a4), some (.int x2)] [.int a3] h2 (q_RV K)) ∧ (¬ a2 ≤ x2 → FW g mX8_takeSecond 60 [some (.ref 44), some (.int a1), some (.int a2), none, some (.int a4), some (.int x2)] [.int a4] h2 (q_RV K))))))) : FW g mX8_takeSecond 8 [some (.ref 44), some (.int a1), some (.int a2), some (.int a3), some (.int a4), none] [] h (q_RV K) := by
  refine QW.iload dX8_takeSecond_8 rfl ?_
  refine QW.aload_n dX8_takeSecond_10 rfl ?_
  refine FW.getI (h 44 6) dX8_takeSecond_11 lfX8_23 sI_44_6 rfl ?_
  refine QW.icmp_ge 80 dX8_takeSecond_14 rfl (fun hc => ?_) (fun hc => ?_)
  · replace vc := vc.1 hc
    refine QW.aload_n dX8_takeSecond_80 rfl ?_
    refine FW.getR dX8_takeSecond_81 lfX8_48 sR_44_22 ?_
    refine QW.iload_n dX8_takeSecond_84 rfl ?_
    refine QW.iload_n dX8_takeSecond_85 rfl ?_
    refine FW.iast dX8_takeSecond_86 sA_56 vc.1 ?_
    replace vc := vc.2
    refine QW.aload_n dX8_takeSecond_87 rfl ?_
    refine QW.dupr dX8_takeSecond_88 ?_
    refine FW.getI (h 44 23) dX8_takeSecond_89 lfX8_186 sI_44_23 rfl ?_
    refine QW.iload_n dX8_takeSecond_92 rfl ?_
    refine QW.iconst (-1 : Int32) rfl dX8_takeSecond_93 ?_
    refine QW.icmp_ne 101 dX8_takeSecond_94 rfl (fun hc => ?_) (fun hc => ?_)
    · replace vc := vc.1 hc
      refine QW.iconst (1 : Int32) rfl dX8_takeSecond_101 ?_
      refine QW.iload_n dX8_takeSecond_102 rfl ?_
      refine QW.ishl dX8_takeSecond_103 ?_
      refine QW.iconst (-1 : Int32) rfl dX8_takeSecond_104 ?_
      refine QW.ixor dX8_takeSecond_105 ?_
      refine QW.iand dX8_takeSecond_106 ?_
      refine FW.putI dX8_takeSecond_107 lfX8_186 sP_44_23 ?_
      exact FW.retV dX8_takeSecond_110 rfl vc
    · replace vc := vc.2 hc
      refine QW.iconst (-1 : Int32) rfl dX8_takeSecond_97 ?_
      refine QW.goto 106 dX8_takeSecond_98 rfl ?_
      refine QW.iand dX8_takeSecond_106 ?_
      refine FW.putI dX8_takeSecond_107 lfX8_186 sP_44_23 ?_
      exact FW.retV dX8_takeSecond_110 rfl vc
  · replace vc := vc.2 hc
    refine QW.aload_n dX8_takeSecond_17 rfl ?_
    refine FW.getI (h 44 23) dX8_takeSecond_18 lfX8_186 sI_44_23 rfl ?_
    refine QW.iload dX8_takeSecond_21 rfl ?_
    refine FW.callSi [.int (h 44 23), .int a4] [] rfl dX8_takeSecond_23 lmX8_130 rfl ⟨Nat.le_of_ble_eq_true rfl, Nat.le_of_ble_eq_true rfl⟩ ⟨rfl, rfl⟩ (Nat.le_of_ble_eq_true rfl) (FI.mono (fun x1 h1 vc => ?_) vc)
    refine QW.if_eq 44 dX8_takeSecond_26 rfl (fun hc => ?_) (fun hc => ?_)
    · replace vc := vc.1 hc
      refine QW.bipush (99 : Int32) rfl dX8_takeSecond_44 ?_
      refine QW.istore [some (.ref 44), some (.int a1), some (.int a2), some (.int a3), some (.int a4), some (.int (99 : Int32))] dX8_takeSecond_46 (by decide) rfl rfl ?_
      refine QW.iload dX8_takeSecond_48 rfl ?_
      refine QW.iload_n dX8_takeSecond_50 rfl ?_
      refine QW.icmp_ge 59 dX8_takeSecond_51 rfl (fun hc => ?_) (fun hc => ?_)
      · replace vc := vc.1 hc
        refine QW.iload_n dX8_takeSecond_59 rfl ?_
        exact QW.sub (by exact ⟨rfl, ⟨rfl, ⟨rfl, ⟨rfl, ⟨rfl, trivial⟩⟩⟩⟩⟩) vc
      · replace vc := vc.2 hc
        refine QW.iload dX8_takeSecond_54 rfl ?_
        refine QW.goto 60 dX8_takeSecond_56 rfl ?_
        exact QW.sub (by exact ⟨rfl, ⟨rfl, ⟨rfl, ⟨rfl, ⟨rfl, trivial⟩⟩⟩⟩⟩) vc
    · replace vc := vc.2 hc
      refine QW.aload_n dX8_takeSecond_29 rfl ?_
      refine QW.aload_n dX8_takeSecond_30 rfl ?_
      refine FW.getR dX8_takeSecond_31 lfX8_45 sR_44_21 ?_
      refine QW.iload_n dX8_takeSecond_34 rfl ?_
      refine FW.iald (h1 55 a1.toNatClampNeg) dX8_takeSecond_35 sA_55 vc.1 rfl ?_
      replace vc := vc.2
      refine QW.iload dX8_takeSecond_36 rfl ?_
      refine FW.callVi [.int (h1 55 a1.toNatClampNeg), .int a4] [] rfl dX8_takeSecond_38 lmX8_176 sC_44 rfl ⟨Nat.le_of_ble_eq_true rfl, Nat.le_of_ble_eq_true rfl⟩ ⟨rfl, rfl⟩ (Nat.le_of_ble_eq_true rfl) (FI.mono (fun x2 h2 vc => ?_) vc)
      refine QW.goto 46 dX8_takeSecond_41 rfl ?_
      refine QW.istore [some (.ref 44), some (.int a1), some (.int a2), some (.int a3), some (.int a4), some (.int x2)] dX8_takeSecond_46 (by decide) rfl rfl ?_
      refine QW.iload dX8_takeSecond_48 rfl ?_
      refine QW.iload_n dX8_takeSecond_50 rfl ?_
      refine QW.icmp_ge 59 dX8_takeSecond_51 rfl (fun hc => ?_) (fun hc => ?_)
      · replace vc := vc.1 hc
        refine QW.iload_n dX8_takeSecond_59 rfl ?_
        exact QW.sub (by exact ⟨rfl, ⟨rfl, ⟨rfl, ⟨rfl, ⟨rfl, trivial⟩⟩⟩⟩⟩) vc
      · replace vc := vc.2 hc
        refine QW.iload dX8_takeSecond_54 rfl ?_
        refine QW.goto 60 dX8_takeSecond_56 rfl ?_
        exact QW.sub (by exact ⟨rfl, ⟨rfl, ⟨rfl, ⟨rfl, ⟨rfl, trivial⟩⟩⟩⟩⟩) vc
theorem vX8_takeSecond_60 {g : QG} {K : Hp → Prop} {h : Hp} {a1 a2 a4 a5 s0 : Int32} (vc : (a2 ≤ a5 → FW g mX8_takeSecond 8 [some (.ref 44), some (.int a1), some (.int a2), some (.int s0), some (.int (a4 + (1 : Int32))), none] [] h (q_RV K)) ∧ (¬ a2 ≤ a5 → FW g mX8_takeSecond 8 [some (.ref 44), some (.int a1), some (.int a5), some (.int s0), some (.int (a4 + (1 : Int32))), none] [] h (q_RV K))) : FW g mX8_takeSecond 60 [some (.ref 44), some (.int a1), some (.int a2), none, some (.int a4), some (.int a5)] [.int s0] h (q_RV K) := by
  refine QW.istore_n [some (.ref 44), some (.int a1), some (.int a2), some (.int s0), some (.int a4), some (.int a5)] dX8_takeSecond_60 (by decide) rfl rfl ?_
  refine QW.iload dX8_takeSecond_61 rfl ?_
  refine QW.iload_n dX8_takeSecond_63 rfl ?_
  refine QW.icmp_ge 72 dX8_takeSecond_64 rfl (fun hc => ?_) (fun hc => ?_)
  · replace vc := vc.1 hc
    refine QW.iload_n dX8_takeSecond_72 rfl ?_
    refine QW.istore_n [some (.ref 44), some (.int a1), some (.int a2), some (.int s0), some (.int a4), some (.int a5)] dX8_takeSecond_73 (by decide) rfl rfl ?_
    refine QW.iinc (a4 + (1 : Int32)) [some (.ref 44), some (.int a1), some (.int a2), some (.int s0), some (.int (a4 + (1 : Int32))), some (.int a5)] dX8_takeSecond_74 rfl rfl (by decide) rfl rfl ?_
    refine QW.goto 8 dX8_takeSecond_77 rfl ?_
    exact QW.sub (by exact ⟨rfl, ⟨rfl, ⟨rfl, ⟨rfl, ⟨rfl, trivial⟩⟩⟩⟩⟩) vc
  · replace vc := vc.2 hc
    refine QW.iload dX8_takeSecond_67 rfl ?_
    refine QW.goto 73 dX8_takeSecond_69 rfl ?_
    refine QW.istore_n [some (.ref 44), some (.int a1), some (.int a5), some (.int s0), some (.int a4), some (.int a5)] dX8_takeSecond_73 (by decide) rfl rfl ?_
    refine QW.iinc (a4 + (1 : Int32)) [some (.ref 44), some (.int a1), some (.int a5), some (.int s0), some (.int (a4 + (1 : Int32))), some (.int a5)] dX8_takeSecond_74 rfl rfl (by decide) rfl rfl ?_
    refine QW.goto 8 dX8_takeSecond_77 rfl ?_
    exact QW.sub (by exact ⟨rfl, ⟨rfl, ⟨rfl, ⟨rfl, ⟨rfl, trivial⟩⟩⟩⟩⟩) vc
theorem vX6_hasChair_r9_0 {g : QG} {K : Int32 → Hp → Prop} {h : Hp} {a1 : Int32} (vc : FI g mX6_hasPlace [.ref 9, .int a1] h (fun x1 h1 => (x1 = 0 → K (0 : Int32) h1) ∧ (¬ x1 = 0 → FI g mX7_holds [.int (h1 9 1), .int a1] h1 (fun x2 h2 => (x2 = 0 → K (0 : Int32) h2) ∧ (¬ x2 = 0 → K (1 : Int32) h2))))) : FW g mX6_hasChair 0 [some (.ref 9), some (.int a1)] [] h (q_RI K) := by
  refine QW.aload_n dX6_hasChair_0 rfl ?_
  refine QW.iload_n dX6_hasChair_1 rfl ?_
  refine FW.callVi [.int a1] [] rfl dX6_hasChair_2 lmX6_43 sC_9 rfl ⟨Nat.le_of_ble_eq_true rfl, Nat.le_of_ble_eq_true rfl⟩ ⟨rfl, rfl⟩ (Nat.le_of_ble_eq_true rfl) (FI.mono (fun x1 h1 vc => ?_) vc)
  refine QW.if_eq 23 dX6_hasChair_5 rfl (fun hc => ?_) (fun hc => ?_)
  · replace vc := vc.1 hc
    refine QW.iconst (0 : Int32) rfl dX6_hasChair_23 ?_
    exact FW.retZ (Or.inl rfl) dX6_hasChair_24 rfl vc
  · replace vc := vc.2 hc
    refine QW.aload_n dX6_hasChair_8 rfl ?_
    refine FW.getI (h1 9 1) dX6_hasChair_9 lfX6_31 sI_9_1 rfl ?_
    refine QW.iload_n dX6_hasChair_12 rfl ?_
    refine FW.callNi [.int (h1 9 1), .int a1] [] rfl dX6_hasChair_13 lmX6_47 rfl ⟨Nat.le_of_ble_eq_true rfl, Nat.le_of_ble_eq_true rfl⟩ ⟨rfl, rfl⟩ (Nat.le_of_ble_eq_true rfl) (FI.mono (fun x2 h2 vc => ?_) vc)
    refine QW.if_eq 23 dX6_hasChair_16 rfl (fun hc => ?_) (fun hc => ?_)
    · replace vc := vc.1 hc
      refine QW.iconst (0 : Int32) rfl dX6_hasChair_23 ?_
      exact FW.retZ (Or.inl rfl) dX6_hasChair_24 rfl vc
    · replace vc := vc.2 hc
      refine QW.iconst (1 : Int32) rfl dX6_hasChair_19 ?_
      refine QW.goto 24 dX6_hasChair_20 rfl ?_
      exact FW.retZ (Or.inr rfl) dX6_hasChair_24 rfl vc
theorem vX7_place_0 {g : QG} {K : Int32 → Hp → Prop} {h : Hp} {a1 a2 : Int32} (vc : FI g mX6_hasPlace [.ref 1, .int a1] h (fun x1 h1 => (¬ x1 = 0 → (a2 = (0 : Int32) → FI g mX6_hasChair [.ref 1, .int a1] h1 (fun x2 h2 => (x2 = 0 → K (0 : Int32) h2) ∧ (¬ x2 = 0 → K (1 : Int32) h2))) ∧ (¬ a2 = (0 : Int32) → (a2 = (1 : Int32) → vp_in a1 12 ∧ K (h1 29 a1.toNatClampNeg) h1) ∧ (¬ a2 = (1 : Int32) → (a2 = (2 : Int32) → FI g mX0_whoIsAt [.ref 26, .int a1, .int (h1 1 2)] h1 (fun x3 h3 => K x3 h3)) ∧ (¬ a2 = (2 : Int32) → K (-3 : Int32) h1)))) ∧ (x1 = 0 → K (-2 : Int32) h1))) : FW g mX7_place 0 [some (.ref 0), some (.int a1), some (.int a2)] [] h (q_RI K) := by
  refine QW.aload_n dX7_place_0 rfl ?_
  refine FW.getR dX7_place_1 lfX7_10 sR_0_0 ?_
  refine QW.iload_n dX7_place_4 rfl ?_
  refine FW.callVi [.int a1] [] rfl dX7_place_5 lmX7_103 sC_1 rfl ⟨Nat.le_of_ble_eq_true rfl, Nat.le_of_ble_eq_true rfl⟩ ⟨rfl, rfl⟩ (Nat.le_of_ble_eq_true rfl) (FI.mono (fun x1 h1 vc => ?_) vc)
  refine QW.if_ne 14 dX7_place_8 rfl (fun hc => ?_) (fun hc => ?_)
  · replace vc := vc.1 hc
    refine QW.iload_n dX7_place_14 rfl ?_
    by_cases c0 : a2 = (0 : Int32)
    · replace vc := vc.1 c0
      refine QW.tabIn 40 dX7_place_15 (by rw [c0]; decide) (by rw [c0]; decide) (by rw [c0]; rfl) rfl ?_
      refine QW.aload_n dX7_place_40 rfl ?_
      refine FW.getR dX7_place_41 lfX7_10 sR_0_0 ?_
      refine QW.iload_n dX7_place_44 rfl ?_
      refine FW.callVi [.int a1] [] rfl dX7_place_45 lmX7_107 sC_1 rfl ⟨Nat.le_of_ble_eq_true rfl, Nat.le_of_ble_eq_true rfl⟩ ⟨rfl, rfl⟩ (Nat.le_of_ble_eq_true rfl) (FI.mono (fun x2 h2 vc => ?_) vc)
      refine QW.if_eq 55 dX7_place_48 rfl (fun hc => ?_) (fun hc => ?_)
      · replace vc := vc.1 hc
        refine QW.iconst (0 : Int32) rfl dX7_place_55 ?_
        exact FW.ret dX7_place_56 rfl vc
      · replace vc := vc.2 hc
        refine QW.iconst (1 : Int32) rfl dX7_place_51 ?_
        refine QW.goto 56 dX7_place_52 rfl ?_
        exact FW.ret dX7_place_56 rfl vc
    · replace vc := vc.2 c0
      by_cases c1 : a2 = (1 : Int32)
      · replace vc := vc.1 c1
        refine QW.tabIn 57 dX7_place_15 (by rw [c1]; decide) (by rw [c1]; decide) (by rw [c1]; rfl) rfl ?_
        refine QW.aload_n dX7_place_57 rfl ?_
        refine FW.getR dX7_place_58 lfX7_53 sR_0_5 ?_
        refine FW.getR dX7_place_61 lfX7_110 sR_26_6 ?_
        refine QW.iload_n dX7_place_64 rfl ?_
        refine FW.iald (h1 29 a1.toNatClampNeg) dX7_place_65 sA_29 vc.1 rfl ?_
        replace vc := vc.2
        exact FW.ret dX7_place_66 rfl vc
      · replace vc := vc.2 c1
        by_cases c2 : a2 = (2 : Int32)
        · replace vc := vc.1 c2
          refine QW.tabIn 67 dX7_place_15 (by rw [c2]; decide) (by rw [c2]; decide) (by rw [c2]; rfl) rfl ?_
          refine QW.aload_n dX7_place_67 rfl ?_
          refine FW.getR dX7_place_68 lfX7_53 sR_0_5 ?_
          refine QW.iload_n dX7_place_71 rfl ?_
          refine QW.aload_n dX7_place_72 rfl ?_
          refine FW.getR dX7_place_73 lfX7_10 sR_0_0 ?_
          refine FW.getI (h1 1 2) dX7_place_76 lfX7_114 sI_1_2 rfl ?_
          refine FW.callVi [.int a1, .int (h1 1 2)] [] rfl dX7_place_79 lmX7_117 sC_26 rfl ⟨Nat.le_of_ble_eq_true rfl, Nat.le_of_ble_eq_true rfl⟩ ⟨rfl, rfl⟩ (Nat.le_of_ble_eq_true rfl) (FI.mono (fun x3 h3 vc => ?_) vc)
          exact FW.ret dX7_place_82 rfl vc
        · replace vc := vc.2 c2
          refine QW.tabOut 83 dX7_place_15 (by have n0 := lv_neT c0 (a := 0) (by decide); have n1 := lv_neT c1 (a := 1) (by decide); have n2 := lv_neT c2 (a := 2) (by decide); omega) rfl ?_
          refine QW.bipush (-3 : Int32) rfl dX7_place_83 ?_
          exact FW.ret dX7_place_85 rfl vc
  · replace vc := vc.2 hc
    refine QW.bipush (-2 : Int32) rfl dX7_place_11 ?_
    exact FW.ret dX7_place_13 rfl vc
theorem vX8_place_0 {g : QG} {K : Int32 → Hp → Prop} {h : Hp} {a1 a2 : Int32} (vc : FI g mX8_isPlace [.ref 44, .int a1] h (fun x1 h1 => (¬ x1 = 0 → FW g mX8_place 19 [some (.ref 44), some (.int a1), some (.int a2), some (.int (-1 : Int32)), some (.int (0 : Int32)), some (.int (0 : Int32))] [] h1 (q_RI K)) ∧ (x1 = 0 → K (-2 : Int32) h1))) : FW g mX8_place 0 [some (.ref 44), some (.int a1), some (.int a2), none, none, none] [] h (q_RI K) := by
  refine QW.aload_n dX8_place_0 rfl ?_
  refine QW.iload_n dX8_place_1 rfl ?_
  refine FW.callVi [.int a1] [] rfl dX8_place_2 lmX8_170 sC_44 rfl ⟨Nat.le_of_ble_eq_true rfl, Nat.le_of_ble_eq_true rfl⟩ ⟨rfl, rfl⟩ (Nat.le_of_ble_eq_true rfl) (FI.mono (fun x1 h1 vc => ?_) vc)
  refine QW.if_ne 11 dX8_place_5 rfl (fun hc => ?_) (fun hc => ?_)
  · replace vc := vc.1 hc
    refine QW.iconst (-1 : Int32) rfl dX8_place_11 ?_
    refine QW.istore_n [some (.ref 44), some (.int a1), some (.int a2), some (.int (-1 : Int32)), none, none] dX8_place_12 (by decide) rfl rfl ?_
    refine QW.iconst (0 : Int32) rfl dX8_place_13 ?_
    refine QW.istore [some (.ref 44), some (.int a1), some (.int a2), some (.int (-1 : Int32)), some (.int (0 : Int32)), none] dX8_place_14 (by decide) rfl rfl ?_
    refine QW.iconst (0 : Int32) rfl dX8_place_16 ?_
    refine QW.istore [some (.ref 44), some (.int a1), some (.int a2), some (.int (-1 : Int32)), some (.int (0 : Int32)), some (.int (0 : Int32))] dX8_place_17 (by decide) rfl rfl ?_
    exact vc
  · replace vc := vc.2 hc
    refine QW.bipush (-2 : Int32) rfl dX8_place_8 ?_
    exact FW.ret dX8_place_10 rfl vc
theorem vX8_place_19 {g : QG} {K : Int32 → Hp → Prop} {h : Hp} {a1 a2 a3 a4 a5 : Int32} (vc : ((h 44 13) ≤ a5 → (¬ a2 = 0 → (¬ a2 = (1 : Int32) → (¬ a2 = (2 : Int32) → K (-3 : Int32) h) ∧ (a2 = (2 : Int32) → K a4 h)) ∧ (a2 = (1 : Int32) → K a3 h)) ∧ (a2 = 0 → K (((h 44 7) >>> (a1 &&& 31)) &&& (1 : Int32)) h)) ∧ (¬ (h 44 13) ≤ a5 → vp_in ((9 : Int32) + a5) 81 ∧ ((h 45 (((9 : Int32) + a5).toNatClampNeg)) = a1 → FW g mX8_place 62 [some (.ref 44), some (.int a1), some (.int a2), none, some (.int a4), some (.int a5)] [.int a5] h (q_RI K)) ∧ (¬ (h 45 (((9 : Int32) + a5).toNatClampNeg)) = a1 → vp_in ((15 : Int32) + a5) 81 ∧ (¬ (h 45 (((15 : Int32) + a5).toNatClampNeg)) = a1 → FW g mX8_place 62 [some (.ref 44), some (.int a1), some (.int a2), none, some (.int a4), some (.int a5)] [.int a3] h (q_RI K)) ∧ ((h 45 (((15 : Int32) + a5).toNatClampNeg)) = a1 → FW g mX8_place 62 [some (.ref 44), some (.int a1), some (.int a2), none, some (.int a4), some (.int a5)] [.int a5] h (q_RI K))))) : FW g mX8_place 19 [some (.ref 44), some (.int a1), some (.int a2), some (.int a3), some (.int a4), some (.int a5)] [] h (q_RI K) := by
  refine QW.iload dX8_place_19 rfl ?_
  refine QW.aload_n dX8_place_21 rfl ?_
  refine FW.getI (h 44 13) dX8_place_22 lfX8_74 sI_44_13 rfl ?_
  refine QW.icmp_ge 95 dX8_place_25 rfl (fun hc => ?_) (fun hc => ?_)
  · replace vc := vc.1 hc
    refine QW.iload_n dX8_place_95 rfl ?_
    refine QW.if_ne 110 dX8_place_96 rfl (fun hc => ?_) (fun hc => ?_)
    · replace vc := vc.1 hc
      refine QW.iload_n dX8_place_110 rfl ?_
      refine QW.iconst (1 : Int32) rfl dX8_place_111 ?_
      refine QW.icmp_ne 119 dX8_place_112 rfl (fun hc => ?_) (fun hc => ?_)
      · replace vc := vc.1 hc
        refine QW.iload_n dX8_place_119 rfl ?_
        refine QW.iconst (2 : Int32) rfl dX8_place_120 ?_
        refine QW.icmp_ne 129 dX8_place_121 rfl (fun hc => ?_) (fun hc => ?_)
        · replace vc := vc.1 hc
          refine QW.bipush (-3 : Int32) rfl dX8_place_129 ?_
          exact FW.ret dX8_place_131 rfl vc
        · replace vc := vc.2 hc
          refine QW.iload dX8_place_124 rfl ?_
          refine QW.goto 131 dX8_place_126 rfl ?_
          exact FW.ret dX8_place_131 rfl vc
      · replace vc := vc.2 hc
        refine QW.iload_n dX8_place_115 rfl ?_
        refine QW.goto 131 dX8_place_116 rfl ?_
        exact FW.ret dX8_place_131 rfl vc
    · replace vc := vc.2 hc
      refine QW.aload_n dX8_place_99 rfl ?_
      refine FW.getI (h 44 7) dX8_place_100 lfX8_154 sI_44_7 rfl ?_
      refine QW.iload_n dX8_place_103 rfl ?_
      refine QW.ishr dX8_place_104 ?_
      refine QW.iconst (1 : Int32) rfl dX8_place_105 ?_
      refine QW.iand dX8_place_106 ?_
      refine QW.goto 131 dX8_place_107 rfl ?_
      exact FW.ret dX8_place_131 rfl vc
  · replace vc := vc.2 hc
    refine QW.aload_n dX8_place_28 rfl ?_
    refine FW.getR dX8_place_29 lfX8_7 sR_44_0 ?_
    refine QW.bipush (9 : Int32) rfl dX8_place_32 ?_
    refine QW.iload dX8_place_34 rfl ?_
    refine QW.iadd dX8_place_36 ?_
    refine FW.iald (h 45 (((9 : Int32) + a5).toNatClampNeg)) dX8_place_37 sA_45 vc.1 rfl ?_
    replace vc := vc.2
    refine QW.iload_n dX8_place_38 rfl ?_
    refine QW.icmp_eq 56 dX8_place_39 rfl (fun hc => ?_) (fun hc => ?_)
    · replace vc := vc.1 hc
      refine QW.iload dX8_place_56 rfl ?_
      refine QW.goto 62 dX8_place_58 rfl ?_
      exact QW.sub (by exact ⟨rfl, ⟨rfl, ⟨rfl, ⟨rfl, ⟨rfl, trivial⟩⟩⟩⟩⟩) vc
    · replace vc := vc.2 hc
      refine QW.aload_n dX8_place_42 rfl ?_
      refine FW.getR dX8_place_43 lfX8_7 sR_44_0 ?_
      refine QW.bipush (15 : Int32) rfl dX8_place_46 ?_
      refine QW.iload dX8_place_48 rfl ?_
      refine QW.iadd dX8_place_50 ?_
      refine FW.iald (h 45 (((15 : Int32) + a5).toNatClampNeg)) dX8_place_51 sA_45 vc.1 rfl ?_
      replace vc := vc.2
      refine QW.iload_n dX8_place_52 rfl ?_
      refine QW.icmp_ne 61 dX8_place_53 rfl (fun hc => ?_) (fun hc => ?_)
      · replace vc := vc.1 hc
        refine QW.iload_n dX8_place_61 rfl ?_
        exact QW.sub (by exact ⟨rfl, ⟨rfl, ⟨rfl, ⟨rfl, ⟨rfl, trivial⟩⟩⟩⟩⟩) vc
      · replace vc := vc.2 hc
        refine QW.iload dX8_place_56 rfl ?_
        refine QW.goto 62 dX8_place_58 rfl ?_
        exact QW.sub (by exact ⟨rfl, ⟨rfl, ⟨rfl, ⟨rfl, ⟨rfl, trivial⟩⟩⟩⟩⟩) vc
theorem vX8_place_62 {g : QG} {K : Int32 → Hp → Prop} {h : Hp} {a1 a2 a4 a5 s0 : Int32} (vc : vp_in ((3 : Int32) + a5) 81 ∧ (¬ (h 45 (((3 : Int32) + a5).toNatClampNeg)) = a1 → FW g mX8_place 19 [some (.ref 44), some (.int a1), some (.int a2), some (.int s0), some (.int (a4 ||| (0 : Int32))), some (.int (a5 + (1 : Int32)))] [] h (q_RI K)) ∧ ((h 45 (((3 : Int32) + a5).toNatClampNeg)) = a1 → FW g mX8_place 19 [some (.ref 44), some (.int a1), some (.int a2), some (.int s0), some (.int (a4 ||| ((1 : Int32) <<< (a5 &&& 31)))), some (.int (a5 + (1 : Int32)))] [] h (q_RI K))) : FW g mX8_place 62 [some (.ref 44), some (.int a1), some (.int a2), none, some (.int a4), some (.int a5)] [.int s0] h (q_RI K) := by
  refine QW.istore_n [some (.ref 44), some (.int a1), some (.int a2), some (.int s0), some (.int a4), some (.int a5)] dX8_place_62 (by decide) rfl rfl ?_
  refine QW.iload dX8_place_63 rfl ?_
  refine QW.aload_n dX8_place_65 rfl ?_
  refine FW.getR dX8_place_66 lfX8_7 sR_44_0 ?_
  refine QW.iconst (3 : Int32) rfl dX8_place_69 ?_
  refine QW.iload dX8_place_70 rfl ?_
  refine QW.iadd dX8_place_72 ?_
  refine FW.iald (h 45 (((3 : Int32) + a5).toNatClampNeg)) dX8_place_73 sA_45 vc.1 rfl ?_
  replace vc := vc.2
  refine QW.iload_n dX8_place_74 rfl ?_
  refine QW.icmp_ne 85 dX8_place_75 rfl (fun hc => ?_) (fun hc => ?_)
  · replace vc := vc.1 hc
    refine QW.iconst (0 : Int32) rfl dX8_place_85 ?_
    refine QW.ior dX8_place_86 ?_
    refine QW.istore [some (.ref 44), some (.int a1), some (.int a2), some (.int s0), some (.int (a4 ||| (0 : Int32))), some (.int a5)] dX8_place_87 (by decide) rfl rfl ?_
    refine QW.iinc (a5 + (1 : Int32)) [some (.ref 44), some (.int a1), some (.int a2), some (.int s0), some (.int (a4 ||| (0 : Int32))), some (.int (a5 + (1 : Int32)))] dX8_place_89 rfl rfl (by decide) rfl rfl ?_
    refine QW.goto 19 dX8_place_92 rfl ?_
    exact vc
  · replace vc := vc.2 hc
    refine QW.iconst (1 : Int32) rfl dX8_place_78 ?_
    refine QW.iload dX8_place_79 rfl ?_
    refine QW.ishl dX8_place_81 ?_
    refine QW.goto 86 dX8_place_82 rfl ?_
    refine QW.ior dX8_place_86 ?_
    refine QW.istore [some (.ref 44), some (.int a1), some (.int a2), some (.int s0), some (.int (a4 ||| ((1 : Int32) <<< (a5 &&& 31)))), some (.int a5)] dX8_place_87 (by decide) rfl rfl ?_
    refine QW.iinc (a5 + (1 : Int32)) [some (.ref 44), some (.int a1), some (.int a2), some (.int s0), some (.int (a4 ||| ((1 : Int32) <<< (a5 &&& 31)))), some (.int (a5 + (1 : Int32)))] dX8_place_89 rfl rfl (by decide) rfl rfl ?_
    refine QW.goto 19 dX8_place_92 rfl ?_
    exact vc
theorem vX8_guest_0 {g : QG} {K : Int32 → Hp → Prop} {h : Hp} {a1 a2 : Int32} (vc : FI g mX8_isGuest [.ref 44, .int a1] h (fun x1 h1 => (¬ x1 = 0 → (a2 = (0 : Int32) → vp_in a1 6 ∧ K (h1 49 a1.toNatClampNeg) h1) ∧ (¬ a2 = (0 : Int32) → (a2 = (1 : Int32) → vp_in ((3 : Int32) + a1) 81 ∧ K (h1 45 (((3 : Int32) + a1).toNatClampNeg)) h1) ∧ (¬ a2 = (1 : Int32) → (a2 = (2 : Int32) → vp_in a1 6 ∧ K (h1 51 a1.toNatClampNeg) h1) ∧ (¬ a2 = (2 : Int32) → (a2 = (3 : Int32) → vp_in a1 6 ∧ K (h1 52 a1.toNatClampNeg) h1) ∧ (¬ a2 = (3 : Int32) → (a2 = (4 : Int32) → vp_in a1 6 ∧ K (h1 53 a1.toNatClampNeg) h1) ∧ (¬ a2 = (4 : Int32) → (a2 = (5 : Int32) → vp_in ((9 : Int32) + a1) 81 ∧ K (h1 45 (((9 : Int32) + a1).toNatClampNeg)) h1) ∧ (¬ a2 = (5 : Int32) → (a2 = (6 : Int32) → vp_in ((21 : Int32) + a1) 81 ∧ K (h1 45 (((21 : Int32) + a1).toNatClampNeg)) h1) ∧ (¬ a2 = (6 : Int32) → K (-3 : Int32) h1)))))))) ∧ (x1 = 0 → K (-2 : Int32) h1))) : FW g mX8_guest 0 [some (.ref 44), some (.int a1), some (.int a2)] [] h (q_RI K) := by
  refine QW.aload_n dX8_guest_0 rfl ?_
  refine QW.iload_n dX8_guest_1 rfl ?_
  refine FW.callVi [.int a1] [] rfl dX8_guest_2 lmX8_173 sC_44 rfl ⟨Nat.le_of_ble_eq_true rfl, Nat.le_of_ble_eq_true rfl⟩ ⟨rfl, rfl⟩ (Nat.le_of_ble_eq_true rfl) (FI.mono (fun x1 h1 vc => ?_) vc)
  refine QW.if_ne 11 dX8_guest_5 rfl (fun hc => ?_) (fun hc => ?_)
  · replace vc := vc.1 hc
    refine QW.iload_n dX8_guest_11 rfl ?_
    by_cases c0 : a2 = (0 : Int32)
    · replace vc := vc.1 c0
      refine QW.tabIn 56 dX8_guest_12 (by rw [c0]; decide) (by rw [c0]; decide) (by rw [c0]; rfl) rfl ?_
      refine QW.aload_n dX8_guest_56 rfl ?_
      refine FW.getR dX8_guest_57 lfX8_27 sR_44_8 ?_
      refine QW.iload_n dX8_guest_60 rfl ?_
      refine FW.iald (h1 49 a1.toNatClampNeg) dX8_guest_61 sA_49 vc.1 rfl ?_
      replace vc := vc.2
      exact FW.ret dX8_guest_62 rfl vc
    · replace vc := vc.2 c0
      by_cases c1 : a2 = (1 : Int32)
      · replace vc := vc.1 c1
        refine QW.tabIn 63 dX8_guest_12 (by rw [c1]; decide) (by rw [c1]; decide) (by rw [c1]; rfl) rfl ?_
        refine QW.aload_n dX8_guest_63 rfl ?_
        refine FW.getR dX8_guest_64 lfX8_7 sR_44_0 ?_
        refine QW.iconst (3 : Int32) rfl dX8_guest_67 ?_
        refine QW.iload_n dX8_guest_68 rfl ?_
        refine QW.iadd dX8_guest_69 ?_
        refine FW.iald (h1 45 (((3 : Int32) + a1).toNatClampNeg)) dX8_guest_70 sA_45 vc.1 rfl ?_
        replace vc := vc.2
        exact FW.ret dX8_guest_71 rfl vc
      · replace vc := vc.2 c1
        by_cases c2 : a2 = (2 : Int32)
        · replace vc := vc.1 c2
          refine QW.tabIn 72 dX8_guest_12 (by rw [c2]; decide) (by rw [c2]; decide) (by rw [c2]; rfl) rfl ?_
          refine QW.aload_n dX8_guest_72 rfl ?_
          refine FW.getR dX8_guest_73 lfX8_33 sR_44_10 ?_
          refine QW.iload_n dX8_guest_76 rfl ?_
          refine FW.iald (h1 51 a1.toNatClampNeg) dX8_guest_77 sA_51 vc.1 rfl ?_
          replace vc := vc.2
          exact FW.ret dX8_guest_78 rfl vc
        · replace vc := vc.2 c2
          by_cases c3 : a2 = (3 : Int32)
          · replace vc := vc.1 c3
            refine QW.tabIn 79 dX8_guest_12 (by rw [c3]; decide) (by rw [c3]; decide) (by rw [c3]; rfl) rfl ?_
            refine QW.aload_n dX8_guest_79 rfl ?_
            refine FW.getR dX8_guest_80 lfX8_36 sR_44_11 ?_
            refine QW.iload_n dX8_guest_83 rfl ?_
            refine FW.iald (h1 52 a1.toNatClampNeg) dX8_guest_84 sA_52 vc.1 rfl ?_
            replace vc := vc.2
            exact FW.ret dX8_guest_85 rfl vc
          · replace vc := vc.2 c3
            by_cases c4 : a2 = (4 : Int32)
            · replace vc := vc.1 c4
              refine QW.tabIn 86 dX8_guest_12 (by rw [c4]; decide) (by rw [c4]; decide) (by rw [c4]; rfl) rfl ?_
              refine QW.aload_n dX8_guest_86 rfl ?_
              refine FW.getR dX8_guest_87 lfX8_39 sR_44_12 ?_
              refine QW.iload_n dX8_guest_90 rfl ?_
              refine FW.iald (h1 53 a1.toNatClampNeg) dX8_guest_91 sA_53 vc.1 rfl ?_
              replace vc := vc.2
              exact FW.ret dX8_guest_92 rfl vc
            · replace vc := vc.2 c4
              by_cases c5 : a2 = (5 : Int32)
              · replace vc := vc.1 c5
                refine QW.tabIn 93 dX8_guest_12 (by rw [c5]; decide) (by rw [c5]; decide) (by rw [c5]; rfl) rfl ?_
                refine QW.aload_n dX8_guest_93 rfl ?_
                refine FW.getR dX8_guest_94 lfX8_7 sR_44_0 ?_
                refine QW.bipush (9 : Int32) rfl dX8_guest_97 ?_
                refine QW.iload_n dX8_guest_99 rfl ?_
                refine QW.iadd dX8_guest_100 ?_
                refine FW.iald (h1 45 (((9 : Int32) + a1).toNatClampNeg)) dX8_guest_101 sA_45 vc.1 rfl ?_
                replace vc := vc.2
                exact FW.ret dX8_guest_102 rfl vc
              · replace vc := vc.2 c5
                by_cases c6 : a2 = (6 : Int32)
                · replace vc := vc.1 c6
                  refine QW.tabIn 103 dX8_guest_12 (by rw [c6]; decide) (by rw [c6]; decide) (by rw [c6]; rfl) rfl ?_
                  refine QW.aload_n dX8_guest_103 rfl ?_
                  refine FW.getR dX8_guest_104 lfX8_7 sR_44_0 ?_
                  refine QW.bipush (21 : Int32) rfl dX8_guest_107 ?_
                  refine QW.iload_n dX8_guest_109 rfl ?_
                  refine QW.iadd dX8_guest_110 ?_
                  refine FW.iald (h1 45 (((21 : Int32) + a1).toNatClampNeg)) dX8_guest_111 sA_45 vc.1 rfl ?_
                  replace vc := vc.2
                  exact FW.ret dX8_guest_112 rfl vc
                · replace vc := vc.2 c6
                  refine QW.tabOut 113 dX8_guest_12 (by have n0 := lv_neT c0 (a := 0) (by decide); have n1 := lv_neT c1 (a := 1) (by decide); have n2 := lv_neT c2 (a := 2) (by decide); have n3 := lv_neT c3 (a := 3) (by decide); have n4 := lv_neT c4 (a := 4) (by decide); have n5 := lv_neT c5 (a := 5) (by decide); have n6 := lv_neT c6 (a := 6) (by decide); omega) rfl ?_
                  refine QW.bipush (-3 : Int32) rfl dX8_guest_113 ?_
                  exact FW.ret dX8_guest_115 rfl vc
  · replace vc := vc.2 hc
    refine QW.bipush (-2 : Int32) rfl dX8_guest_8 ?_
    exact FW.ret dX8_guest_10 rfl vc
