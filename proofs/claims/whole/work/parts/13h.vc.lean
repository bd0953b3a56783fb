theorem vX7_price_0 {g : QG} {K : Int32 → Hp → Prop} {h : Hp} {a1 : Int32} (vc : FI g mX7_isMinute [.int a1] h (fun x1 h1 => (¬ x1 = 0 → FV g mX2_asTold [.ref 20] h1 (fun h2 => FI g mX2_stoodAt [.ref 20, .int a1] h2 (fun x3 h3 => ((h3 16 4) = 0 → K (0 : Int32) h3) ∧ (¬ (h3 16 4) = 0 → FI g mX6_greatestWorth [.ref 1, .int x3] h3 (fun x4 h4 => K x4 h4))))) ∧ (x1 = 0 → K (-3 : Int32) h1))) : FW g mX7_price 0 [some (.ref 0), some (.int a1), none] [] h (q_RI K) := by
  refine QW.iload_n dX7_price_0 rfl ?_
  refine FW.callSi [.int a1] [] rfl dX7_price_1 lmX7_199 rfl ⟨Nat.le_of_ble_eq_true rfl, Nat.le_of_ble_eq_true rfl⟩ ⟨rfl, rfl⟩ (Nat.le_of_ble_eq_true rfl) (FI.mono (fun x1 h1 vc => ?_) vc)
  refine QW.if_ne 10 dX7_price_4 rfl (fun hc => ?_) (fun hc => ?_)
  · replace vc := vc.1 hc
    refine QW.aload_n dX7_price_10 rfl ?_
    refine FW.getR dX7_price_11 lfX7_37 sR_0_3 ?_
    refine FW.callVv [] [] rfl dX7_price_14 lmX7_202 sC_20 rfl ⟨Nat.le_of_ble_eq_true rfl, Nat.le_of_ble_eq_true rfl⟩ ⟨rfl, rfl⟩ (Nat.le_of_ble_eq_true rfl) (FV.mono (fun h2 vc => ?_) vc)
    refine QW.aload_n dX7_price_17 rfl ?_
    refine FW.getR dX7_price_18 lfX7_37 sR_0_3 ?_
    refine QW.iload_n dX7_price_21 rfl ?_
    refine FW.callVi [.int a1] [] rfl dX7_price_22 lmX7_205 sC_20 rfl ⟨Nat.le_of_ble_eq_true rfl, Nat.le_of_ble_eq_true rfl⟩ ⟨rfl, rfl⟩ (Nat.le_of_ble_eq_true rfl) (FI.mono (fun x3 h3 vc => ?_) vc)
    refine QW.istore_n [some (.ref 0), some (.int a1), some (.int x3)] dX7_price_25 (by decide) rfl rfl ?_
    refine QW.aload_n dX7_price_26 rfl ?_
    refine FW.getR dX7_price_27 lfX7_28 sR_0_2 ?_
    refine FW.getI (h3 16 4) dX7_price_30 lfX7_249 sI_16_4 rfl ?_
    refine QW.if_eq 47 dX7_price_33 rfl (fun hc => ?_) (fun hc => ?_)
    · replace vc := vc.1 hc
      refine QW.iconst (0 : Int32) rfl dX7_price_47 ?_
      exact FW.ret dX7_price_48 rfl vc
    · replace vc := vc.2 hc
      refine QW.aload_n dX7_price_36 rfl ?_
      refine FW.getR dX7_price_37 lfX7_10 sR_0_0 ?_
      refine QW.iload_n dX7_price_40 rfl ?_
      refine FW.callVi [.int x3] [] rfl dX7_price_41 lmX7_252 sC_1 rfl ⟨Nat.le_of_ble_eq_true rfl, Nat.le_of_ble_eq_true rfl⟩ ⟨rfl, rfl⟩ (Nat.le_of_ble_eq_true rfl) (FI.mono (fun x4 h4 vc => ?_) vc)
      refine QW.goto 48 dX7_price_44 rfl ?_
      exact FW.ret dX7_price_48 rfl vc
  · replace vc := vc.2 hc
    refine QW.bipush (-3 : Int32) rfl dX7_price_7 ?_
    exact FW.ret dX7_price_9 rfl vc
theorem vX8_price_0 {g : QG} {K : Int32 → Hp → Prop} {h : Hp} {a1 : Int32} (vc : FI g mX8_isTime [.int a1] h (fun x1 h1 => (¬ x1 = 0 → FI g mX8_standingAt [.ref 44, .int a1] h1 (fun x2 h2 => FW g mX8_price 24 [some (.ref 44), none, some (.int x2), some (.int (0 : Int32)), some (.int (0 : Int32)), some (.int (0 : Int32))] [] h2 (q_RI K))) ∧ (x1 = 0 → K (-3 : Int32) h1))) : FW g mX8_price 0 [some (.ref 44), some (.int a1), none, none, none, none] [] h (q_RI K) := by
  refine QW.iload_n dX8_price_0 rfl ?_
  refine FW.callSi [.int a1] [] rfl dX8_price_1 lmX8_229 rfl ⟨Nat.le_of_ble_eq_true rfl, Nat.le_of_ble_eq_true rfl⟩ ⟨rfl, rfl⟩ (Nat.le_of_ble_eq_true rfl) (FI.mono (fun x1 h1 vc => ?_) vc)
  refine QW.if_ne 10 dX8_price_4 rfl (fun hc => ?_) (fun hc => ?_)
  · replace vc := vc.1 hc
    refine QW.aload_n dX8_price_10 rfl ?_
    refine QW.iload_n dX8_price_11 rfl ?_
    refine FW.callVi [.int a1] [] rfl dX8_price_12 lmX8_232 sC_44 rfl ⟨Nat.le_of_ble_eq_true rfl, Nat.le_of_ble_eq_true rfl⟩ ⟨rfl, rfl⟩ (Nat.le_of_ble_eq_true rfl) (FI.mono (fun x2 h2 vc => ?_) vc)
    refine QW.istore_n [some (.ref 44), some (.int a1), some (.int x2), none, none, none] dX8_price_15 (by decide) rfl rfl ?_
    refine QW.iconst (0 : Int32) rfl dX8_price_16 ?_
    refine QW.istore_n [some (.ref 44), some (.int a1), some (.int x2), some (.int (0 : Int32)), none, none] dX8_price_17 (by decide) rfl rfl ?_
    refine QW.iconst (0 : Int32) rfl dX8_price_18 ?_
    refine QW.istore [some (.ref 44), some (.int a1), some (.int x2), some (.int (0 : Int32)), some (.int (0 : Int32)), none] dX8_price_19 (by decide) rfl rfl ?_
    refine QW.iconst (0 : Int32) rfl dX8_price_21 ?_
    refine QW.istore [some (.ref 44), some (.int a1), some (.int x2), some (.int (0 : Int32)), some (.int (0 : Int32)), some (.int (0 : Int32))] dX8_price_22 (by decide) rfl rfl ?_
    exact QW.sub (by exact ⟨rfl, ⟨rfl, ⟨rfl, ⟨rfl, ⟨rfl, trivial⟩⟩⟩⟩⟩) vc
  · replace vc := vc.2 hc
    refine QW.bipush (-3 : Int32) rfl dX8_price_7 ?_
    exact FW.ret dX8_price_9 rfl vc
theorem vX8_price_24 {g : QG} {K : Int32 → Hp → Prop} {h : Hp} {a2 a3 a4 a5 : Int32} (vc : ((h 44 13) ≤ a5 → (a3 = 0 → K (0 : Int32) h) ∧ (¬ a3 = 0 → K a4 h)) ∧ (¬ (h 44 13) ≤ a5 → (¬ a3 = 0 → FW g mX8_price 53 [some (.ref 44), none, some (.int a2), none, some (.int a4), some (.int a5)] [.int (1 : Int32)] h (q_RI K)) ∧ (a3 = 0 → vp_in a5 6 ∧ ((h 56 a5.toNatClampNeg) = (-1 : Int32) → FW g mX8_price 53 [some (.ref 44), none, some (.int a2), none, some (.int a4), some (.int a5)] [.int (0 : Int32)] h (q_RI K)) ∧ (¬ (h 56 a5.toNatClampNeg) = (-1 : Int32) → FW g mX8_price 53 [some (.ref 44), none, some (.int a2), none, some (.int a4), some (.int a5)] [.int (1 : Int32)] h (q_RI K))))) : FW g mX8_price 24 [some (.ref 44), none, some (.int a2), some (.int a3), some (.int a4), some (.int a5)] [] h (q_RI K) := by
  refine QW.iload dX8_price_24 rfl ?_
  refine QW.aload_n dX8_price_26 rfl ?_
  refine FW.getI (h 44 13) dX8_price_27 lfX8_74 sI_44_13 rfl ?_
  refine QW.icmp_ge 95 dX8_price_30 rfl (fun hc => ?_) (fun hc => ?_)
  · replace vc := vc.1 hc
    refine QW.iload_n dX8_price_95 rfl ?_
    refine QW.if_eq 104 dX8_price_96 rfl (fun hc => ?_) (fun hc => ?_)
    · replace vc := vc.1 hc
      refine QW.iconst (0 : Int32) rfl dX8_price_104 ?_
      exact FW.ret dX8_price_105 rfl vc
    · replace vc := vc.2 hc
      refine QW.iload dX8_price_99 rfl ?_
      refine QW.goto 105 dX8_price_101 rfl ?_
      exact FW.ret dX8_price_105 rfl vc
  · replace vc := vc.2 hc
    refine QW.iload_n dX8_price_33 rfl ?_
    refine QW.if_ne 48 dX8_price_34 rfl (fun hc => ?_) (fun hc => ?_)
    · replace vc := vc.1 hc
      refine QW.iconst (1 : Int32) rfl dX8_price_48 ?_
      refine QW.goto 53 dX8_price_49 rfl ?_
      exact QW.sub (by exact ⟨rfl, ⟨rfl, ⟨rfl, ⟨rfl, trivial⟩⟩⟩⟩) vc
    · replace vc := vc.2 hc
      refine QW.aload_n dX8_price_37 rfl ?_
      refine FW.getR dX8_price_38 lfX8_48 sR_44_22 ?_
      refine QW.iload dX8_price_41 rfl ?_
      refine FW.iald (h 56 a5.toNatClampNeg) dX8_price_43 sA_56 vc.1 rfl ?_
      replace vc := vc.2
      refine QW.iconst (-1 : Int32) rfl dX8_price_44 ?_
      refine QW.icmp_eq 52 dX8_price_45 rfl (fun hc => ?_) (fun hc => ?_)
      · replace vc := vc.1 hc
        refine QW.iconst (0 : Int32) rfl dX8_price_52 ?_
        exact QW.sub (by exact ⟨rfl, ⟨rfl, ⟨rfl, ⟨rfl, trivial⟩⟩⟩⟩) vc
      · replace vc := vc.2 hc
        refine QW.iconst (1 : Int32) rfl dX8_price_48 ?_
        refine QW.goto 53 dX8_price_49 rfl ?_
        exact QW.sub (by exact ⟨rfl, ⟨rfl, ⟨rfl, ⟨rfl, trivial⟩⟩⟩⟩) vc
theorem vX8_price_53 {g : QG} {K : Int32 → Hp → Prop} {h : Hp} {a2 a4 a5 s0 : Int32} (vc : FI g mX8_has [.int a2, .int a5] h (fun x1 h1 => (x1 = 0 → FW g mX8_price 24 [some (.ref 44), none, some (.int a2), some (.int s0), some (.int a4), some (.int (a5 + (1 : Int32)))] [] h1 (q_RI K)) ∧ (¬ x1 = 0 → vp_in a5 6 ∧ ((h1 53 a5.toNatClampNeg) ≤ a4 → FW g mX8_price 24 [some (.ref 44), none, some (.int a2), some (.int s0), some (.int a4), some (.int (a5 + (1 : Int32)))] [] h1 (q_RI K)) ∧ (¬ (h1 53 a5.toNatClampNeg) ≤ a4 → vp_in a5 6 ∧ FW g mX8_price 24 [some (.ref 44), none, some (.int a2), some (.int s0), some (.int (h1 53 a5.toNatClampNeg)), some (.int (a5 + (1 : Int32)))] [] h1 (q_RI K))))) : FW g mX8_price 53 [some (.ref 44), none, some (.int a2), none, some (.int a4), some (.int a5)] [.int s0] h (q_RI K) := by
  refine QW.istore_n [some (.ref 44), none, some (.int a2), some (.int s0), some (.int a4), some (.int a5)] dX8_price_53 (by decide) rfl rfl ?_
  refine QW.iload_n dX8_price_54 rfl ?_
  refine QW.iload dX8_price_55 rfl ?_
  refine FW.callSi [.int a2, .int a5] [] rfl dX8_price_57 lmX8_130 rfl ⟨Nat.le_of_ble_eq_true rfl, Nat.le_of_ble_eq_true rfl⟩ ⟨rfl, rfl⟩ (Nat.le_of_ble_eq_true rfl) (FI.mono (fun x1 h1 vc => ?_) vc)
  refine QW.if_eq 85 dX8_price_60 rfl (fun hc => ?_) (fun hc => ?_)
  · replace vc := vc.1 hc
    refine QW.iload dX8_price_85 rfl ?_
    refine QW.istore [some (.ref 44), none, some (.int a2), some (.int s0), some (.int a4), some (.int a5)] dX8_price_87 (by decide) rfl rfl ?_
    refine QW.iinc (a5 + (1 : Int32)) [some (.ref 44), none, some (.int a2), some (.int s0), some (.int a4), some (.int (a5 + (1 : Int32)))] dX8_price_89 rfl rfl (by decide) rfl rfl ?_
    refine QW.goto 24 dX8_price_92 rfl ?_
    exact vc
  · replace vc := vc.2 hc
    refine QW.aload_n dX8_price_63 rfl ?_
    refine FW.getR dX8_price_64 lfX8_39 sR_44_12 ?_
    refine QW.iload dX8_price_67 rfl ?_
    refine FW.iald (h1 53 a5.toNatClampNeg) dX8_price_69 sA_53 vc.1 rfl ?_
    replace vc := vc.2
    refine QW.iload dX8_price_70 rfl ?_
    refine QW.icmp_le 85 dX8_price_72 rfl (fun hc => ?_) (fun hc => ?_)
    · replace vc := vc.1 hc
      refine QW.iload dX8_price_85 rfl ?_
      refine QW.istore [some (.ref 44), none, some (.int a2), some (.int s0), some (.int a4), some (.int a5)] dX8_price_87 (by decide) rfl rfl ?_
      refine QW.iinc (a5 + (1 : Int32)) [some (.ref 44), none, some (.int a2), some (.int s0), some (.int a4), some (.int (a5 + (1 : Int32)))] dX8_price_89 rfl rfl (by decide) rfl rfl ?_
      refine QW.goto 24 dX8_price_92 rfl ?_
      exact vc
    · replace vc := vc.2 hc
      refine QW.aload_n dX8_price_75 rfl ?_
      refine FW.getR dX8_price_76 lfX8_39 sR_44_12 ?_
      refine QW.iload dX8_price_79 rfl ?_
      refine FW.iald (h1 53 a5.toNatClampNeg) dX8_price_81 sA_53 vc.1 rfl ?_
      replace vc := vc.2
      refine QW.goto 87 dX8_price_82 rfl ?_
      refine QW.istore [some (.ref 44), none, some (.int a2), some (.int s0), some (.int (h1 53 a5.toNatClampNeg)), some (.int a5)] dX8_price_87 (by decide) rfl rfl ?_
      refine QW.iinc (a5 + (1 : Int32)) [some (.ref 44), none, some (.int a2), some (.int s0), some (.int (h1 53 a5.toNatClampNeg)), some (.int (a5 + (1 : Int32)))] dX8_price_89 rfl rfl (by decide) rfl rfl ?_
      refine QW.goto 24 dX8_price_92 rfl ?_
      exact vc
theorem vX8_laid_0 {g : QG} {K : Int32 → Hp → Prop} {h : Hp} {a1 a2 a3 a4 : Int32} (vc : FI g mX8_in [.long a1.toInt64, .long (0 : Int64), .long ((h 44 6).toInt64)] h (fun x1 h1 => (x1 = 0 → K (-3 : Int32) h1) ∧ (¬ x1 = 0 → FI g mX8_isSpan [.int a2, .int a3] h1 (fun x2 h2 => (x2 = 0 → K (-3 : Int32) h2) ∧ (¬ x2 = 0 → FI g mX8_in [.long a4.toInt64, .long (0 : Int64), .long (1 : Int64)] h2 (fun x3 h3 => (¬ x3 = 0 → FW g mX8_laid 47 [some (.ref 44), some (.int a1), some (.int a2), some (.int a3), some (.int a4), some (.int (-1 : Int32)), some (.int (999 : Int32)), some (.int (0 : Int32)), none] [] h3 (q_RI K)) ∧ (x3 = 0 → K (-3 : Int32) h3))))))) : FW g mX8_laid 0 [some (.ref 44), some (.int a1), some (.int a2), some (.int a3), some (.int a4), none, none, none, none] [] h (q_RI K) := by
  refine QW.iload_n dX8_laid_0 rfl ?_
  refine QW.i2l dX8_laid_1 ?_
  refine QW.lconst (0 : Int64) rfl dX8_laid_2 ?_
  refine QW.aload_n dX8_laid_3 rfl ?_
  refine FW.getI (h 44 6) dX8_laid_4 lfX8_23 sI_44_6 rfl ?_
  refine QW.i2l dX8_laid_7 ?_
  refine FW.callSi [.long a1.toInt64, .long (0 : Int64), .long ((h 44 6).toInt64)] [] rfl dX8_laid_8 lmX8_70 rfl ⟨Nat.le_of_ble_eq_true rfl, Nat.le_of_ble_eq_true rfl⟩ ⟨rfl, rfl⟩ (Nat.le_of_ble_eq_true rfl) (FI.mono (fun x1 h1 vc => ?_) vc)
  refine QW.if_eq 33 dX8_laid_11 rfl (fun hc => ?_) (fun hc => ?_)
  · replace vc := vc.1 hc
    refine QW.bipush (-3 : Int32) rfl dX8_laid_33 ?_
    exact FW.ret dX8_laid_35 rfl vc
  · replace vc := vc.2 hc
    refine QW.iload_n dX8_laid_14 rfl ?_
    refine QW.iload_n dX8_laid_15 rfl ?_
    refine FW.callSi [.int a2, .int a3] [] rfl dX8_laid_16 lmX8_235 rfl ⟨Nat.le_of_ble_eq_true rfl, Nat.le_of_ble_eq_true rfl⟩ ⟨rfl, rfl⟩ (Nat.le_of_ble_eq_true rfl) (FI.mono (fun x2 h2 vc => ?_) vc)
    refine QW.if_eq 33 dX8_laid_19 rfl (fun hc => ?_) (fun hc => ?_)
    · replace vc := vc.1 hc
      refine QW.bipush (-3 : Int32) rfl dX8_laid_33 ?_
      exact FW.ret dX8_laid_35 rfl vc
    · replace vc := vc.2 hc
      refine QW.iload dX8_laid_22 rfl ?_
      refine QW.i2l dX8_laid_24 ?_
      refine QW.lconst (0 : Int64) rfl dX8_laid_25 ?_
      refine QW.lconst (1 : Int64) rfl dX8_laid_26 ?_
      refine FW.callSi [.long a4.toInt64, .long (0 : Int64), .long (1 : Int64)] [] rfl dX8_laid_27 lmX8_70 rfl ⟨Nat.le_of_ble_eq_true rfl, Nat.le_of_ble_eq_true rfl⟩ ⟨rfl, rfl⟩ (Nat.le_of_ble_eq_true rfl) (FI.mono (fun x3 h3 vc => ?_) vc)
      refine QW.if_ne 36 dX8_laid_30 rfl (fun hc => ?_) (fun hc => ?_)
      · replace vc := vc.1 hc
        refine QW.iconst (-1 : Int32) rfl dX8_laid_36 ?_
        refine QW.istore [some (.ref 44), some (.int a1), some (.int a2), some (.int a3), some (.int a4), some (.int (-1 : Int32)), none, none, none] dX8_laid_37 (by decide) rfl rfl ?_
        refine QW.sipush (999 : Int32) rfl dX8_laid_39 ?_
        refine QW.istore [some (.ref 44), some (.int a1), some (.int a2), some (.int a3), some (.int a4), some (.int (-1 : Int32)), some (.int (999 : Int32)), none, none] dX8_laid_42 (by decide) rfl rfl ?_
        refine QW.iconst (0 : Int32) rfl dX8_laid_44 ?_
        refine QW.istore [some (.ref 44), some (.int a1), some (.int a2), some (.int a3), some (.int a4), some (.int (-1 : Int32)), some (.int (999 : Int32)), some (.int (0 : Int32)), none] dX8_laid_45 (by decide) rfl rfl ?_
        exact vc
      · replace vc := vc.2 hc
        refine QW.bipush (-3 : Int32) rfl dX8_laid_33 ?_
        exact FW.ret dX8_laid_35 rfl vc
theorem vX8_laid_47 {g : QG} {K : Int32 → Hp → Prop} {h : Hp} {a1 a2 a3 a4 a5 a6 a7 : Int32} (vc : (((1 : Int32) <<< ((h 44 6) &&& 31)) ≤ a7 → (¬ a4 = 0 → K a5 h) ∧ (a4 = 0 → K a6 h)) ∧ (¬ ((1 : Int32) <<< ((h 44 6) &&& 31)) ≤ a7 → FI g mX8_bits [.int a7] h (fun x1 h1 => (¬ x1 = a1 → (a6 ≤ (999 : Int32) → FW g mX8_laid 97 [some (.ref 44), some (.int a1), some (.int a2), some (.int a3), some (.int a4), none, some (.int a6), some (.int a7), some (.int (999 : Int32))] [.int a5] h1 (q_RI K)) ∧ (¬ a6 ≤ (999 : Int32) → FW g mX8_laid 97 [some (.ref 44), some (.int a1), some (.int a2), some (.int a3), some (.int a4), none, some (.int a6), some (.int a7), some (.int (999 : Int32))] [.int a7] h1 (q_RI K))) ∧ (x1 = a1 → FI g mX8_apart [.ref 44, .int a7, .int a2, .int a3] h1 (fun x2 h2 => (a6 ≤ x2 → FW g mX8_laid 97 [some (.ref 44), some (.int a1), some (.int a2), some (.int a3), some (.int a4), none, some (.int a6), some (.int a7), some (.int x2)] [.int a5] h2 (q_RI K)) ∧ (¬ a6 ≤ x2 → FW g mX8_laid 97 [some (.ref 44), some (.int a1), some (.int a2), some (.int a3), some (.int a4), none, some (.int a6), some (.int a7), some (.int x2)] [.int a7] h2 (q_RI K))))))) : FW g mX8_laid 47 [some (.ref 44), some (.int a1), some (.int a2), some (.int a3), some (.int a4), some (.int a5), some (.int a6), some (.int a7), none] [] h (q_RI K) := by
  refine QW.iload dX8_laid_47 rfl ?_
  refine QW.iconst (1 : Int32) rfl dX8_laid_49 ?_
  refine QW.aload_n dX8_laid_50 rfl ?_
  refine FW.getI (h 44 6) dX8_laid_51 lfX8_23 sI_44_6 rfl ?_
  refine QW.ishl dX8_laid_54 ?_
  refine QW.icmp_ge 121 dX8_laid_55 rfl (fun hc => ?_) (fun hc => ?_)
  · replace vc := vc.1 hc
    refine QW.iload dX8_laid_121 rfl ?_
    refine QW.if_ne 131 dX8_laid_123 rfl (fun hc => ?_) (fun hc => ?_)
    · replace vc := vc.1 hc
      refine QW.iload dX8_laid_131 rfl ?_
      exact FW.ret dX8_laid_133 rfl vc
    · replace vc := vc.2 hc
      refine QW.iload dX8_laid_126 rfl ?_
      refine QW.goto 133 dX8_laid_128 rfl ?_
      exact FW.ret dX8_laid_133 rfl vc
  · replace vc := vc.2 hc
    refine QW.iload dX8_laid_58 rfl ?_
    refine FW.callSi [.int a7] [] rfl dX8_laid_60 lmX8_219 rfl ⟨Nat.le_of_ble_eq_true rfl, Nat.le_of_ble_eq_true rfl⟩ ⟨rfl, rfl⟩ (Nat.le_of_ble_eq_true rfl) (FI.mono (fun x1 h1 vc => ?_) vc)
    refine QW.iload_n dX8_laid_63 rfl ?_
    refine QW.icmp_ne 78 dX8_laid_64 rfl (fun hc => ?_) (fun hc => ?_)
    · replace vc := vc.1 hc
      refine QW.sipush (999 : Int32) rfl dX8_laid_78 ?_
      refine QW.istore [some (.ref 44), some (.int a1), some (.int a2), some (.int a3), some (.int a4), some (.int a5), some (.int a6), some (.int a7), some (.int (999 : Int32))] dX8_laid_81 (by decide) rfl rfl ?_
      refine QW.iload dX8_laid_83 rfl ?_
      refine QW.iload dX8_laid_85 rfl ?_
      refine QW.icmp_ge 95 dX8_laid_87 rfl (fun hc => ?_) (fun hc => ?_)
      · replace vc := vc.1 hc
        refine QW.iload dX8_laid_95 rfl ?_
        exact QW.sub (by exact ⟨rfl, ⟨rfl, ⟨rfl, ⟨rfl, ⟨rfl, ⟨rfl, ⟨rfl, ⟨rfl, trivial⟩⟩⟩⟩⟩⟩⟩⟩) vc
      · replace vc := vc.2 hc
        refine QW.iload dX8_laid_90 rfl ?_
        refine QW.goto 97 dX8_laid_92 rfl ?_
        exact QW.sub (by exact ⟨rfl, ⟨rfl, ⟨rfl, ⟨rfl, ⟨rfl, ⟨rfl, ⟨rfl, ⟨rfl, trivial⟩⟩⟩⟩⟩⟩⟩⟩) vc
    · replace vc := vc.2 hc
      refine QW.aload_n dX8_laid_67 rfl ?_
      refine QW.iload dX8_laid_68 rfl ?_
      refine QW.iload_n dX8_laid_70 rfl ?_
      refine QW.iload_n dX8_laid_71 rfl ?_
      refine FW.callVi [.int a7, .int a2, .int a3] [] rfl dX8_laid_72 lmX8_256 sC_44 rfl ⟨Nat.le_of_ble_eq_true rfl, Nat.le_of_ble_eq_true rfl⟩ ⟨rfl, rfl⟩ (Nat.le_of_ble_eq_true rfl) (FI.mono (fun x2 h2 vc => ?_) vc)
      refine QW.goto 81 dX8_laid_75 rfl ?_
      refine QW.istore [some (.ref 44), some (.int a1), some (.int a2), some (.int a3), some (.int a4), some (.int a5), some (.int a6), some (.int a7), some (.int x2)] dX8_laid_81 (by decide) rfl rfl ?_
      refine QW.iload dX8_laid_83 rfl ?_
      refine QW.iload dX8_laid_85 rfl ?_
      refine QW.icmp_ge 95 dX8_laid_87 rfl (fun hc => ?_) (fun hc => ?_)
      · replace vc := vc.1 hc
        refine QW.iload dX8_laid_95 rfl ?_
        exact QW.sub (by exact ⟨rfl, ⟨rfl, ⟨rfl, ⟨rfl, ⟨rfl, ⟨rfl, ⟨rfl, ⟨rfl, trivial⟩⟩⟩⟩⟩⟩⟩⟩) vc
      · replace vc := vc.2 hc
        refine QW.iload dX8_laid_90 rfl ?_
        refine QW.goto 97 dX8_laid_92 rfl ?_
        exact QW.sub (by exact ⟨rfl, ⟨rfl, ⟨rfl, ⟨rfl, ⟨rfl, ⟨rfl, ⟨rfl, ⟨rfl, trivial⟩⟩⟩⟩⟩⟩⟩⟩) vc
theorem vX8_laid_97 {g : QG} {K : Int32 → Hp → Prop} {h : Hp} {a1 a2 a3 a4 a6 a7 a8 s0 : Int32} (vc : (a6 ≤ a8 → FW g mX8_laid 47 [some (.ref 44), some (.int a1), some (.int a2), some (.int a3), some (.int a4), some (.int s0), some (.int a6), some (.int (a7 + (1 : Int32))), none] [] h (q_RI K)) ∧ (¬ a6 ≤ a8 → FW g mX8_laid 47 [some (.ref 44), some (.int a1), some (.int a2), some (.int a3), some (.int a4), some (.int s0), some (.int a8), some (.int (a7 + (1 : Int32))), none] [] h (q_RI K))) : FW g mX8_laid 97 [some (.ref 44), some (.int a1), some (.int a2), some (.int a3), some (.int a4), none, some (.int a6), some (.int a7), some (.int a8)] [.int s0] h (q_RI K) := by
  refine QW.istore [some (.ref 44), some (.int a1), some (.int a2), some (.int a3), some (.int a4), some (.int s0), some (.int a6), some (.int a7), some (.int a8)] dX8_laid_97 (by decide) rfl rfl ?_
  refine QW.iload dX8_laid_99 rfl ?_
  refine QW.iload dX8_laid_101 rfl ?_
  refine QW.icmp_ge 111 dX8_laid_103 rfl (fun hc => ?_) (fun hc => ?_)
  · replace vc := vc.1 hc
    refine QW.iload dX8_laid_111 rfl ?_
    refine QW.istore [some (.ref 44), some (.int a1), some (.int a2), some (.int a3), some (.int a4), some (.int s0), some (.int a6), some (.int a7), some (.int a8)] dX8_laid_113 (by decide) rfl rfl ?_
    refine QW.iinc (a7 + (1 : Int32)) [some (.ref 44), some (.int a1), some (.int a2), some (.int a3), some (.int a4), some (.int s0), some (.int a6), some (.int (a7 + (1 : Int32))), some (.int a8)] dX8_laid_115 rfl rfl (by decide) rfl rfl ?_
    refine QW.goto 47 dX8_laid_118 rfl ?_
    exact QW.sub (by exact ⟨rfl, ⟨rfl, ⟨rfl, ⟨rfl, ⟨rfl, ⟨rfl, ⟨rfl, ⟨rfl, trivial⟩⟩⟩⟩⟩⟩⟩⟩) vc
  · replace vc := vc.2 hc
    refine QW.iload dX8_laid_106 rfl ?_
    refine QW.goto 113 dX8_laid_108 rfl ?_
    refine QW.istore [some (.ref 44), some (.int a1), some (.int a2), some (.int a3), some (.int a4), some (.int s0), some (.int a8), some (.int a7), some (.int a8)] dX8_laid_113 (by decide) rfl rfl ?_
    refine QW.iinc (a7 + (1 : Int32)) [some (.ref 44), some (.int a1), some (.int a2), some (.int a3), some (.int a4), some (.int s0), some (.int a8), some (.int (a7 + (1 : Int32))), some (.int a8)] dX8_laid_115 rfl rfl (by decide) rfl rfl ?_
    refine QW.goto 47 dX8_laid_118 rfl ?_
    exact QW.sub (by exact ⟨rfl, ⟨rfl, ⟨rfl, ⟨rfl, ⟨rfl, ⟨rfl, ⟨rfl, ⟨rfl, trivial⟩⟩⟩⟩⟩⟩⟩⟩) vc
theorem vX8_fits_0 {g : QG} {K : Int32 → Hp → Prop} {h : Hp} {a1 : Int32} (vc : FI g mX8_in [.long a1.toInt64, .long (0 : Int64), .long (1 : Int64)] h (fun x1 h1 => (¬ x1 = 0 → FW g mX8_fits 20 [some (.ref 44), some (.int a1), some (.int (0 : Int32)), some (.int (-1 : Int32)), some (.int (0 : Int32)), none, none, none] [] h1 (q_RI K)) ∧ (x1 = 0 → K (-3 : Int32) h1))) : FW g mX8_fits 0 [some (.ref 44), some (.int a1), none, none, none, none, none, none] [] h (q_RI K) := by
  refine QW.iload_n dX8_fits_0 rfl ?_
  refine QW.i2l dX8_fits_1 ?_
  refine QW.lconst (0 : Int64) rfl dX8_fits_2 ?_
  refine QW.lconst (1 : Int64) rfl dX8_fits_3 ?_
  refine FW.callSi [.long a1.toInt64, .long (0 : Int64), .long (1 : Int64)] [] rfl dX8_fits_4 lmX8_70 rfl ⟨Nat.le_of_ble_eq_true rfl, Nat.le_of_ble_eq_true rfl⟩ ⟨rfl, rfl⟩ (Nat.le_of_ble_eq_true rfl) (FI.mono (fun x1 h1 vc => ?_) vc)
  refine QW.if_ne 13 dX8_fits_7 rfl (fun hc => ?_) (fun hc => ?_)
  · replace vc := vc.1 hc
    refine QW.iconst (0 : Int32) rfl dX8_fits_13 ?_
    refine QW.istore_n [some (.ref 44), some (.int a1), some (.int (0 : Int32)), none, none, none, none, none] dX8_fits_14 (by decide) rfl rfl ?_
    refine QW.iconst (-1 : Int32) rfl dX8_fits_15 ?_
    refine QW.istore_n [some (.ref 44), some (.int a1), some (.int (0 : Int32)), some (.int (-1 : Int32)), none, none, none, none] dX8_fits_16 (by decide) rfl rfl ?_
    refine QW.iconst (0 : Int32) rfl dX8_fits_17 ?_
    refine QW.istore [some (.ref 44), some (.int a1), some (.int (0 : Int32)), some (.int (-1 : Int32)), some (.int (0 : Int32)), none, none, none] dX8_fits_18 (by decide) rfl rfl ?_
    exact vc
  · replace vc := vc.2 hc
    refine QW.bipush (-3 : Int32) rfl dX8_fits_10 ?_
    exact FW.ret dX8_fits_12 rfl vc
theorem vX8_fits_20 {g : QG} {K : Int32 → Hp → Prop} {h : Hp} {a1 a2 a3 a4 : Int32} (vc : ((100 : Int32) ≤ a4 → (¬ a1 = 0 → K a3 h) ∧ (a1 = 0 → K a2 h)) ∧ (¬ (100 : Int32) ≤ a4 → FI g mX8_standingAt [.ref 44, .int a4] h (fun x1 h1 => FW g mX8_fits 41 [some (.ref 44), some (.int a1), some (.int a2), some (.int a3), some (.int a4), some (.int x1), some (.int (1 : Int32)), some (.int (0 : Int32))] [] h1 (q_RI K)))) : FW g mX8_fits 20 [some (.ref 44), some (.int a1), some (.int a2), some (.int a3), some (.int a4), none, none, none] [] h (q_RI K) := by
  refine QW.iload dX8_fits_20 rfl ?_
  refine QW.bipush (100 : Int32) rfl dX8_fits_22 ?_
  refine QW.icmp_ge 131 dX8_fits_24 rfl (fun hc => ?_) (fun hc => ?_)
  · replace vc := vc.1 hc
    refine QW.iload_n dX8_fits_131 rfl ?_
    refine QW.if_ne 139 dX8_fits_132 rfl (fun hc => ?_) (fun hc => ?_)
    · replace vc := vc.1 hc
      refine QW.iload_n dX8_fits_139 rfl ?_
      exact FW.ret dX8_fits_140 rfl vc
    · replace vc := vc.2 hc
      refine QW.iload_n dX8_fits_135 rfl ?_
      refine QW.goto 140 dX8_fits_136 rfl ?_
      exact FW.ret dX8_fits_140 rfl vc
  · replace vc := vc.2 hc
    refine QW.aload_n dX8_fits_27 rfl ?_
    refine QW.iload dX8_fits_28 rfl ?_
    refine FW.callVi [.int a4] [] rfl dX8_fits_30 lmX8_232 sC_44 rfl ⟨Nat.le_of_ble_eq_true rfl, Nat.le_of_ble_eq_true rfl⟩ ⟨rfl, rfl⟩ (Nat.le_of_ble_eq_true rfl) (FI.mono (fun x1 h1 vc => ?_) vc)
    refine QW.istore [some (.ref 44), some (.int a1), some (.int a2), some (.int a3), some (.int a4), some (.int x1), none, none] dX8_fits_33 (by decide) rfl rfl ?_
    refine QW.iconst (1 : Int32) rfl dX8_fits_35 ?_
    refine QW.istore [some (.ref 44), some (.int a1), some (.int a2), some (.int a3), some (.int a4), some (.int x1), some (.int (1 : Int32)), none] dX8_fits_36 (by decide) rfl rfl ?_
    refine QW.iconst (0 : Int32) rfl dX8_fits_38 ?_
    refine QW.istore [some (.ref 44), some (.int a1), some (.int a2), some (.int a3), some (.int a4), some (.int x1), some (.int (1 : Int32)), some (.int (0 : Int32))] dX8_fits_39 (by decide) rfl rfl ?_
    exact vc
theorem vX8_fits_41 {g : QG} {K : Int32 → Hp → Prop} {h : Hp} {a1 a2 a3 a4 a5 a6 a7 : Int32} (vc : ((h 44 30) ≤ a7 → (a6 = 0 → FW g mX8_fits 111 [some (.ref 44), some (.int a1), some (.int a2), none, some (.int a4), none, some (.int a6), none] [.int a3] h (q_RI K)) ∧ (¬ a6 = 0 → (¬ a2 = 0 → FW g mX8_fits 111 [some (.ref 44), some (.int a1), some (.int a2), none, some (.int a4), none, some (.int a6), none] [.int a3] h (q_RI K)) ∧ (a2 = 0 → FW g mX8_fits 111 [some (.ref 44), some (.int a1), some (.int a2), none, some (.int a4), none, some (.int a6), none] [.int a4] h (q_RI K)))) ∧ (¬ (h 44 30) ≤ a7 → (a6 = 0 → FW g mX8_fits 41 [some (.ref 44), some (.int a1), some (.int a2), some (.int a3), some (.int a4), some (.int a5), some (.int (0 : Int32)), some (.int (a7 + (1 : Int32)))] [] h (q_RI K)) ∧ (¬ a6 = 0 → vp_in ((2 : Int32) * a7) 12 ∧ vp_in (((2 : Int32) * a7) + (1 : Int32)) 12 ∧ (¬ ((a5 >>> ((h 60 (((2 : Int32) * a7).toNatClampNeg)) &&& 31)) &&& (1 : Int32)) = (h 60 ((((2 : Int32) * a7) + (1 : Int32)).toNatClampNeg)) → FW g mX8_fits 41 [some (.ref 44), some (.int a1), some (.int a2), some (.int a3), some (.int a4), some (.int a5), some (.int (0 : Int32)), some (.int (a7 + (1 : Int32)))] [] h (q_RI K)) ∧ (((a5 >>> ((h 60 (((2 : Int32) * a7).toNatClampNeg)) &&& 31)) &&& (1 : Int32)) = (h 60 ((((2 : Int32) * a7) + (1 : Int32)).toNatClampNeg)) → FW g mX8_fits 41 [some (.ref 44), some (.int a1), some (.int a2), some (.int a3), some (.int a4), some (.int a5), some (.int (1 : Int32)), some (.int (a7 + (1 : Int32)))] [] h (q_RI K))))) : FW g mX8_fits 41 [some (.ref 44), some (.int a1), some (.int a2), some (.int a3), some (.int a4), some (.int a5), some (.int a6), some (.int a7)] [] h (q_RI K) := by
  refine QW.iload dX8_fits_41 rfl ?_
  refine QW.aload_n dX8_fits_43 rfl ?_
  refine FW.getI (h 44 30) dX8_fits_44 lfX8_167 sI_44_30 rfl ?_
  refine QW.icmp_ge 96 dX8_fits_47 rfl (fun hc => ?_) (fun hc => ?_)
  · replace vc := vc.1 hc
    refine QW.iload dX8_fits_96 rfl ?_
    refine QW.if_eq 110 dX8_fits_98 rfl (fun hc => ?_) (fun hc => ?_)
    · replace vc := vc.1 hc
      refine QW.iload_n dX8_fits_110 rfl ?_
      exact QW.sub (by exact ⟨rfl, ⟨rfl, ⟨rfl, ⟨rfl, ⟨rfl, trivial⟩⟩⟩⟩⟩) vc
    · replace vc := vc.2 hc
      refine QW.iload_n dX8_fits_101 rfl ?_
      refine QW.if_ne 110 dX8_fits_102 rfl (fun hc => ?_) (fun hc => ?_)
      · replace vc := vc.1 hc
        refine QW.iload_n dX8_fits_110 rfl ?_
        exact QW.sub (by exact ⟨rfl, ⟨rfl, ⟨rfl, ⟨rfl, ⟨rfl, trivial⟩⟩⟩⟩⟩) vc
      · replace vc := vc.2 hc
        refine QW.iload dX8_fits_105 rfl ?_
        refine QW.goto 111 dX8_fits_107 rfl ?_
        exact QW.sub (by exact ⟨rfl, ⟨rfl, ⟨rfl, ⟨rfl, ⟨rfl, trivial⟩⟩⟩⟩⟩) vc
  · replace vc := vc.2 hc
    refine QW.iload dX8_fits_50 rfl ?_
    refine QW.if_eq 87 dX8_fits_52 rfl (fun hc => ?_) (fun hc => ?_)
    · replace vc := vc.1 hc
      refine QW.iconst (0 : Int32) rfl dX8_fits_87 ?_
      refine QW.istore [some (.ref 44), some (.int a1), some (.int a2), some (.int a3), some (.int a4), some (.int a5), some (.int (0 : Int32)), some (.int a7)] dX8_fits_88 (by decide) rfl rfl ?_
      refine QW.iinc (a7 + (1 : Int32)) [some (.ref 44), some (.int a1), some (.int a2), some (.int a3), some (.int a4), some (.int a5), some (.int (0 : Int32)), some (.int (a7 + (1 : Int32)))] dX8_fits_90 rfl rfl (by decide) rfl rfl ?_
      refine QW.goto 41 dX8_fits_93 rfl ?_
      exact vc
    · replace vc := vc.2 hc
      refine QW.iload dX8_fits_55 rfl ?_
      refine QW.aload_n dX8_fits_57 rfl ?_
      refine FW.getR dX8_fits_58 lfX8_60 sR_44_29 ?_
      refine QW.iconst (2 : Int32) rfl dX8_fits_61 ?_
      refine QW.iload dX8_fits_62 rfl ?_
      refine QW.imul dX8_fits_64 ?_
      refine FW.iald (h 60 (((2 : Int32) * a7).toNatClampNeg)) dX8_fits_65 sA_60 vc.1 rfl ?_
      replace vc := vc.2
      refine QW.ishr dX8_fits_66 ?_
      refine QW.iconst (1 : Int32) rfl dX8_fits_67 ?_
      refine QW.iand dX8_fits_68 ?_
      refine QW.aload_n dX8_fits_69 rfl ?_
      refine FW.getR dX8_fits_70 lfX8_60 sR_44_29 ?_
      refine QW.iconst (2 : Int32) rfl dX8_fits_73 ?_
      refine QW.iload dX8_fits_74 rfl ?_
      refine QW.imul dX8_fits_76 ?_
      refine QW.iconst (1 : Int32) rfl dX8_fits_77 ?_
      refine QW.iadd dX8_fits_78 ?_
      refine FW.iald (h 60 ((((2 : Int32) * a7) + (1 : Int32)).toNatClampNeg)) dX8_fits_79 sA_60 vc.1 rfl ?_
      replace vc := vc.2
      refine QW.icmp_ne 87 dX8_fits_80 rfl (fun hc => ?_) (fun hc => ?_)
      · replace vc := vc.1 hc
        refine QW.iconst (0 : Int32) rfl dX8_fits_87 ?_
        refine QW.istore [some (.ref 44), some (.int a1), some (.int a2), some (.int a3), some (.int a4), some (.int a5), some (.int (0 : Int32)), some (.int a7)] dX8_fits_88 (by decide) rfl rfl ?_
        refine QW.iinc (a7 + (1 : Int32)) [some (.ref 44), some (.int a1), some (.int a2), some (.int a3), some (.int a4), some (.int a5), some (.int (0 : Int32)), some (.int (a7 + (1 : Int32)))] dX8_fits_90 rfl rfl (by decide) rfl rfl ?_
        refine QW.goto 41 dX8_fits_93 rfl ?_
        exact vc
      · replace vc := vc.2 hc
        refine QW.iconst (1 : Int32) rfl dX8_fits_83 ?_
        refine QW.goto 88 dX8_fits_84 rfl ?_
        refine QW.istore [some (.ref 44), some (.int a1), some (.int a2), some (.int a3), some (.int a4), some (.int a5), some (.int (1 : Int32)), some (.int a7)] dX8_fits_88 (by decide) rfl rfl ?_
        refine QW.iinc (a7 + (1 : Int32)) [some (.ref 44), some (.int a1), some (.int a2), some (.int a3), some (.int a4), some (.int a5), some (.int (1 : Int32)), some (.int (a7 + (1 : Int32)))] dX8_fits_90 rfl rfl (by decide) rfl rfl ?_
        refine QW.goto 41 dX8_fits_93 rfl ?_
        exact vc
theorem vX8_fits_111 {g : QG} {K : Int32 → Hp → Prop} {h : Hp} {a1 a2 a4 a6 s0 : Int32} (vc : (a6 = 0 → FW g mX8_fits 20 [some (.ref 44), some (.int a1), some (.int (a2 + (0 : Int32))), some (.int s0), some (.int (a4 + (1 : Int32))), none, none, none] [] h (q_RI K)) ∧ (¬ a6 = 0 → FW g mX8_fits 20 [some (.ref 44), some (.int a1), some (.int (a2 + (1 : Int32))), some (.int s0), some (.int (a4 + (1 : Int32))), none, none, none] [] h (q_RI K))) : FW g mX8_fits 111 [some (.ref 44), some (.int a1), some (.int a2), none, some (.int a4), none, some (.int a6), none] [.int s0] h (q_RI K) := by
  refine QW.istore_n [some (.ref 44), some (.int a1), some (.int a2), some (.int s0), some (.int a4), none, some (.int a6), none] dX8_fits_111 (by decide) rfl rfl ?_
  refine QW.iload_n dX8_fits_112 rfl ?_
  refine QW.iload dX8_fits_113 rfl ?_
  refine QW.if_eq 122 dX8_fits_115 rfl (fun hc => ?_) (fun hc => ?_)
  · replace vc := vc.1 hc
    refine QW.iconst (0 : Int32) rfl dX8_fits_122 ?_
    refine QW.iadd dX8_fits_123 ?_
    refine QW.istore_n [some (.ref 44), some (.int a1), some (.int (a2 + (0 : Int32))), some (.int s0), some (.int a4), none, some (.int a6), none] dX8_fits_124 (by decide) rfl rfl ?_
    refine QW.iinc (a4 + (1 : Int32)) [some (.ref 44), some (.int a1), some (.int (a2 + (0 : Int32))), some (.int s0), some (.int (a4 + (1 : Int32))), none, some (.int a6), none] dX8_fits_125 rfl rfl (by decide) rfl rfl ?_
    refine QW.goto 20 dX8_fits_128 rfl ?_
    exact QW.sub (by exact ⟨rfl, ⟨rfl, ⟨rfl, ⟨rfl, ⟨rfl, trivial⟩⟩⟩⟩⟩) vc
  · replace vc := vc.2 hc
    refine QW.iconst (1 : Int32) rfl dX8_fits_118 ?_
    refine QW.goto 123 dX8_fits_119 rfl ?_
    refine QW.iadd dX8_fits_123 ?_
    refine QW.istore_n [some (.ref 44), some (.int a1), some (.int (a2 + (1 : Int32))), some (.int s0), some (.int a4), none, some (.int a6), none] dX8_fits_124 (by decide) rfl rfl ?_
    refine QW.iinc (a4 + (1 : Int32)) [some (.ref 44), some (.int a1), some (.int (a2 + (1 : Int32))), some (.int s0), some (.int (a4 + (1 : Int32))), none, some (.int a6), none] dX8_fits_125 rfl rfl (by decide) rfl rfl ?_
    refine QW.goto 20 dX8_fits_128 rfl ?_
    exact QW.sub (by exact ⟨rfl, ⟨rfl, ⟨rfl, ⟨rfl, ⟨rfl, trivial⟩⟩⟩⟩⟩) vc
theorem vX8_minutesOf_0 {g : QG} {K : Int32 → Hp → Prop} {h : Hp} {a1 a2 a3 : Int32} (vc : FW g mX8_minutesOf 6 [some (.ref 44), some (.int a1), none, some (.int a3), some (.int (0 : Int32)), some (.int a2)] [] h (q_RI K)) : FW g mX8_minutesOf 0 [some (.ref 44), some (.int a1), some (.int a2), some (.int a3), none, none] [] h (q_RI K) := by
  refine QW.iconst (0 : Int32) rfl dX8_minutesOf_0 ?_
  refine QW.istore [some (.ref 44), some (.int a1), some (.int a2), some (.int a3), some (.int (0 : Int32)), none] dX8_minutesOf_1 (by decide) rfl rfl ?_
  refine QW.iload_n dX8_minutesOf_3 rfl ?_
  refine QW.istore [some (.ref 44), some (.int a1), some (.int a2), some (.int a3), some (.int (0 : Int32)), some (.int a2)] dX8_minutesOf_4 (by decide) rfl rfl ?_
  exact QW.sub (by exact ⟨rfl, ⟨rfl, ⟨rfl, ⟨rfl, ⟨rfl, trivial⟩⟩⟩⟩⟩) vc
theorem vX8_minutesOf_6 {g : QG} {K : Int32 → Hp → Prop} {h : Hp} {a1 a3 a4 a5 : Int32} (vc : (a3 < a5 → K a4 h) ∧ (¬ a3 < a5 → FI g mX8_standingAt [.ref 44, .int a5] h (fun x1 h1 => FI g mX8_has [.int x1, .int a1] h1 (fun x2 h2 => (x2 = 0 → FW g mX8_minutesOf 6 [some (.ref 44), some (.int a1), none, some (.int a3), some (.int (a4 + (0 : Int32))), some (.int (a5 + (1 : Int32)))] [] h2 (q_RI K)) ∧ (¬ x2 = 0 → FW g mX8_minutesOf 6 [some (.ref 44), some (.int a1), none, some (.int a3), some (.int (a4 + (1 : Int32))), some (.int (a5 + (1 : Int32)))] [] h2 (q_RI K)))))) : FW g mX8_minutesOf 6 [some (.ref 44), some (.int a1), none, some (.int a3), some (.int a4), some (.int a5)] [] h (q_RI K) := by
  refine QW.iload dX8_minutesOf_6 rfl ?_
  refine QW.iload_n dX8_minutesOf_8 rfl ?_
  refine QW.icmp_gt 41 dX8_minutesOf_9 rfl (fun hc => ?_) (fun hc => ?_)
  · replace vc := vc.1 hc
    refine QW.iload dX8_minutesOf_41 rfl ?_
    exact FW.ret dX8_minutesOf_43 rfl vc
  · replace vc := vc.2 hc
    refine QW.iload dX8_minutesOf_12 rfl ?_
    refine QW.aload_n dX8_minutesOf_14 rfl ?_
    refine QW.iload dX8_minutesOf_15 rfl ?_
    refine FW.callVi [.int a5] [.int a4] rfl dX8_minutesOf_17 lmX8_232 sC_44 rfl ⟨Nat.le_of_ble_eq_true rfl, Nat.le_of_ble_eq_true rfl⟩ ⟨rfl, rfl⟩ (Nat.le_of_ble_eq_true rfl) (FI.mono (fun x1 h1 vc => ?_) vc)
    refine QW.iload_n dX8_minutesOf_20 rfl ?_
    refine FW.callSi [.int x1, .int a1] [.int a4] rfl dX8_minutesOf_21 lmX8_130 rfl ⟨Nat.le_of_ble_eq_true rfl, Nat.le_of_ble_eq_true rfl⟩ ⟨rfl, rfl⟩ (Nat.le_of_ble_eq_true rfl) (FI.mono (fun x2 h2 vc => ?_) vc)
    refine QW.if_eq 31 dX8_minutesOf_24 rfl (fun hc => ?_) (fun hc => ?_)
    · replace vc := vc.1 hc
      refine QW.iconst (0 : Int32) rfl dX8_minutesOf_31 ?_
      refine QW.iadd dX8_minutesOf_32 ?_
      refine QW.istore [some (.ref 44), some (.int a1), none, some (.int a3), some (.int (a4 + (0 : Int32))), some (.int a5)] dX8_minutesOf_33 (by decide) rfl rfl ?_
      refine QW.iinc (a5 + (1 : Int32)) [some (.ref 44), some (.int a1), none, some (.int a3), some (.int (a4 + (0 : Int32))), some (.int (a5 + (1 : Int32)))] dX8_minutesOf_35 rfl rfl (by decide) rfl rfl ?_
      refine QW.goto 6 dX8_minutesOf_38 rfl ?_
      exact vc
    · replace vc := vc.2 hc
      refine QW.iconst (1 : Int32) rfl dX8_minutesOf_27 ?_
      refine QW.goto 32 dX8_minutesOf_28 rfl ?_
      refine QW.iadd dX8_minutesOf_32 ?_
      refine QW.istore [some (.ref 44), some (.int a1), none, some (.int a3), some (.int (a4 + (1 : Int32))), some (.int a5)] dX8_minutesOf_33 (by decide) rfl rfl ?_
      refine QW.iinc (a5 + (1 : Int32)) [some (.ref 44), some (.int a1), none, some (.int a3), some (.int (a4 + (1 : Int32))), some (.int (a5 + (1 : Int32)))] dX8_minutesOf_35 rfl rfl (by decide) rfl rfl ?_
      refine QW.goto 6 dX8_minutesOf_38 rfl ?_
      exact vc
theorem vX1_findSurest_0 {g : QG} {K : Hp → Prop} {h : Hp} {a1 a2 a3 : Int32} (vc : FV g mX2_asTold [.ref 20] h (fun h1 => FW g mX1_findSurest 16 [some (.ref 24), some (.int a1), some (.int a2), some (.int a3), some (.int (0 : Int32)), none] [] (q_up h1 24 3 (101 : Int32)) (q_RV K))) : FW g mX1_findSurest 0 [some (.ref 24), some (.int a1), some (.int a2), some (.int a3), none, none] [] h (q_RV K) := by
  refine QW.aload_n dX1_findSurest_0 rfl ?_
  refine FW.getR dX1_findSurest_1 lfX1_19 sR_24_1 ?_
  refine FW.callVv [] [] rfl dX1_findSurest_4 lmX1_23 sC_20 rfl ⟨Nat.le_of_ble_eq_true rfl, Nat.le_of_ble_eq_true rfl⟩ ⟨rfl, rfl⟩ (Nat.le_of_ble_eq_true rfl) (FV.mono (fun h1 vc => ?_) vc)
  refine QW.aload_n dX1_findSurest_7 rfl ?_
  refine QW.bipush (101 : Int32) rfl dX1_findSurest_8 ?_
  refine FW.putI dX1_findSurest_10 lfX1_28 sP_24_3 ?_
  refine QW.iconst (0 : Int32) rfl dX1_findSurest_13 ?_
  refine QW.istore [some (.ref 24), some (.int a1), some (.int a2), some (.int a3), some (.int (0 : Int32)), none] dX1_findSurest_14 (by decide) rfl rfl ?_
  exact vc
theorem vX1_findSurest_16 {g : QG} {K : Hp → Prop} {h : Hp} {a1 a2 a3 a4 : Int32} (vc : ((3 : Int32) < a4 → K h) ∧ (¬ (3 : Int32) < a4 → FW g mX1_findSurest 25 [some (.ref 24), some (.int a1), some (.int a2), some (.int a3), some (.int a4), some (.int (0 : Int32))] [] h (q_RV K))) : FW g mX1_findSurest 16 [some (.ref 24), some (.int a1), some (.int a2), some (.int a3), some (.int a4), none] [] h (q_RV K) := by
  refine QW.iload dX1_findSurest_16 rfl ?_
  refine QW.iconst (3 : Int32) rfl dX1_findSurest_18 ?_
  refine QW.icmp_gt 115 dX1_findSurest_19 rfl (fun hc => ?_) (fun hc => ?_)
  · replace vc := vc.1 hc
    exact FW.retV dX1_findSurest_115 rfl vc
  · replace vc := vc.2 hc
    refine QW.iconst (0 : Int32) rfl dX1_findSurest_22 ?_
    refine QW.istore [some (.ref 24), some (.int a1), some (.int a2), some (.int a3), some (.int a4), some (.int (0 : Int32))] dX1_findSurest_23 (by decide) rfl rfl ?_
    exact vc
theorem vX1_findSurest_25 {g : QG} {K : Hp → Prop} {h : Hp} {a1 a2 a3 a4 a5 : Int32} (vc : ((1 : Int32) < a5 → FW g mX1_findSurest 16 [some (.ref 24), some (.int a1), some (.int a2), some (.int a3), some (.int (a4 + (1 : Int32))), none] [] h (q_RV K)) ∧ (¬ (1 : Int32) < a5 → vp_in a1 6 ∧ vp_in a1 6 ∧ FV g mX2_tally [.ref 20, .int a2, .int a3] (q_up (q_up h 21 a1.toNatClampNeg a4) 22 a1.toNatClampNeg a5) (fun h1 => vp_in a1 6 ∧ ((h1 24 3) ≤ (h1 23 a1.toNatClampNeg) → FW g mX1_findSurest 25 [some (.ref 24), some (.int a1), some (.int a2), some (.int a3), some (.int a4), some (.int (a5 + (1 : Int32)))] [] h1 (q_RV K)) ∧ (¬ (h1 24 3) ≤ (h1 23 a1.toNatClampNeg) → vp_in a1 6 ∧ FW g mX1_findSurest 25 [some (.ref 24), some (.int a1), some (.int a2), some (.int a3), some (.int a4), some (.int (a5 + (1 : Int32)))] [] (q_up (q_up (q_up h1 24 3 (h1 23 a1.toNatClampNeg)) 24 5 a4) 24 6 a5) (q_RV K))))) : FW g mX1_findSurest 25 [some (.ref 24), some (.int a1), some (.int a2), some (.int a3), some (.int a4), some (.int a5)] [] h (q_RV K) := by
  refine QW.iload dX1_findSurest_25 rfl ?_
  refine QW.iconst (1 : Int32) rfl dX1_findSurest_27 ?_
  refine QW.icmp_gt 109 dX1_findSurest_28 rfl (fun hc => ?_) (fun hc => ?_)
  · replace vc := vc.1 hc
    refine QW.iinc (a4 + (1 : Int32)) [some (.ref 24), some (.int a1), some (.int a2), some (.int a3), some (.int (a4 + (1 : Int32))), some (.int a5)] dX1_findSurest_109 rfl rfl (by decide) rfl rfl ?_
    refine QW.goto 16 dX1_findSurest_112 rfl ?_
    exact QW.sub (by exact ⟨rfl, ⟨rfl, ⟨rfl, ⟨rfl, ⟨rfl, trivial⟩⟩⟩⟩⟩) vc
  · replace vc := vc.2 hc
    refine QW.aload_n dX1_findSurest_31 rfl ?_
    refine FW.getR dX1_findSurest_32 lfX1_19 sR_24_1 ?_
    refine FW.getR dX1_findSurest_35 lfX1_32 sR_20_2 ?_
    refine QW.iload_n dX1_findSurest_38 rfl ?_
    refine QW.iload dX1_findSurest_39 rfl ?_
    refine FW.iast dX1_findSurest_41 sA_21 vc.1 ?_
    replace vc := vc.2
    refine QW.aload_n dX1_findSurest_42 rfl ?_
    refine FW.getR dX1_findSurest_43 lfX1_19 sR_24_1 ?_
    refine FW.getR dX1_findSurest_46 lfX1_35 sR_20_3 ?_
    refine QW.iload_n dX1_findSurest_49 rfl ?_
    refine QW.iload dX1_findSurest_50 rfl ?_
    refine FW.iast dX1_findSurest_52 sA_22 vc.1 ?_
    replace vc := vc.2
    refine QW.aload_n dX1_findSurest_53 rfl ?_
    refine FW.getR dX1_findSurest_54 lfX1_19 sR_24_1 ?_
    refine QW.iload_n dX1_findSurest_57 rfl ?_
    refine QW.iload_n dX1_findSurest_58 rfl ?_
    refine FW.callVv [.int a2, .int a3] [] rfl dX1_findSurest_59 lmX1_38 sC_20 rfl ⟨Nat.le_of_ble_eq_true rfl, Nat.le_of_ble_eq_true rfl⟩ ⟨rfl, rfl⟩ (Nat.le_of_ble_eq_true rfl) (FV.mono (fun h1 vc => ?_) vc)
    refine QW.aload_n dX1_findSurest_62 rfl ?_
    refine FW.getR dX1_findSurest_63 lfX1_19 sR_24_1 ?_
    refine FW.getR dX1_findSurest_66 lfX1_42 sR_20_4 ?_
    refine QW.iload_n dX1_findSurest_69 rfl ?_
    refine FW.iald (h1 23 a1.toNatClampNeg) dX1_findSurest_70 sA_23 vc.1 rfl ?_
    replace vc := vc.2
    refine QW.aload_n dX1_findSurest_71 rfl ?_
    refine FW.getI (h1 24 3) dX1_findSurest_72 lfX1_28 sI_24_3 rfl ?_
    refine QW.icmp_ge 103 dX1_findSurest_75 rfl (fun hc => ?_) (fun hc => ?_)
    · replace vc := vc.1 hc
      refine QW.iinc (a5 + (1 : Int32)) [some (.ref 24), some (.int a1), some (.int a2), some (.int a3), some (.int a4), some (.int (a5 + (1 : Int32)))] dX1_findSurest_103 rfl rfl (by decide) rfl rfl ?_
      refine QW.goto 25 dX1_findSurest_106 rfl ?_
      exact vc
    · replace vc := vc.2 hc
      refine QW.aload_n dX1_findSurest_78 rfl ?_
      refine QW.aload_n dX1_findSurest_79 rfl ?_
      refine FW.getR dX1_findSurest_80 lfX1_19 sR_24_1 ?_
      refine FW.getR dX1_findSurest_83 lfX1_42 sR_20_4 ?_
      refine QW.iload_n dX1_findSurest_86 rfl ?_
      refine FW.iald (h1 23 a1.toNatClampNeg) dX1_findSurest_87 sA_23 vc.1 rfl ?_
      replace vc := vc.2
      refine FW.putI dX1_findSurest_88 lfX1_28 sP_24_3 ?_
      refine QW.aload_n dX1_findSurest_91 rfl ?_
      refine QW.iload dX1_findSurest_92 rfl ?_
      refine FW.putI dX1_findSurest_94 lfX1_45 sP_24_5 ?_
      refine QW.aload_n dX1_findSurest_97 rfl ?_
      refine QW.iload dX1_findSurest_98 rfl ?_
      refine FW.putI dX1_findSurest_100 lfX1_48 sP_24_6 ?_
      refine QW.iinc (a5 + (1 : Int32)) [some (.ref 24), some (.int a1), some (.int a2), some (.int a3), some (.int a4), some (.int (a5 + (1 : Int32)))] dX1_findSurest_103 rfl rfl (by decide) rfl rfl ?_
      refine QW.goto 25 dX1_findSurest_106 rfl ?_
      exact vc
theorem vX1_findStill_0 {g : QG} {K : Hp → Prop} {h : Hp} {a1 a2 : Int32} (vc : FV g mX2_asTold [.ref 20] h (fun h1 => FW g mX1_findStill 9 [some (.ref 24), some (.int a1), some (.int a2), some (.int (0 : Int32)), none] [] h1 (q_RV K))) : FW g mX1_findStill 0 [some (.ref 24), some (.int a1), some (.int a2), none, none] [] h (q_RV K) := by
  refine QW.aload_n dX1_findStill_0 rfl ?_
  refine FW.getR dX1_findStill_1 lfX1_19 sR_24_1 ?_
  refine FW.callVv [] [] rfl dX1_findStill_4 lmX1_23 sC_20 rfl ⟨Nat.le_of_ble_eq_true rfl, Nat.le_of_ble_eq_true rfl⟩ ⟨rfl, rfl⟩ (Nat.le_of_ble_eq_true rfl) (FV.mono (fun h1 vc => ?_) vc)
  refine QW.iconst (0 : Int32) rfl dX1_findStill_7 ?_
  refine QW.istore_n [some (.ref 24), some (.int a1), some (.int a2), some (.int (0 : Int32)), none] dX1_findStill_8 (by decide) rfl rfl ?_
  exact vc
theorem vX1_findStill_9 {g : QG} {K : Hp → Prop} {h : Hp} {a1 a2 a3 : Int32} (vc : FI g mX6_everyone [.ref 1] h (fun x1 h1 => (x1 < a3 → FW g mX1_findStill 105 [some (.ref 24), none, none, some (.int (0 : Int32)), none] [] (q_up (q_up h1 24 3 (0 : Int32)) 24 4 (-1 : Int32)) (q_RV K)) ∧ (¬ x1 < a3 → FW g mX1_findStill 23 [some (.ref 24), some (.int a1), some (.int a2), some (.int a3), some (.int (0 : Int32))] [] h1 (q_RV K)))) : FW g mX1_findStill 9 [some (.ref 24), some (.int a1), some (.int a2), some (.int a3), none] [] h (q_RV K) := by
  refine QW.iload_n dX1_findStill_9 rfl ?_
  refine QW.aload_n dX1_findStill_10 rfl ?_
  refine FW.getR dX1_findStill_11 lfX1_15 sR_24_0 ?_
  refine FW.callVi [] [.int a3] rfl dX1_findStill_14 lmX1_51 sC_1 rfl ⟨Nat.le_of_ble_eq_true rfl, Nat.le_of_ble_eq_true rfl⟩ ⟨rfl, rfl⟩ (Nat.le_of_ble_eq_true rfl) (FI.mono (fun x1 h1 vc => ?_) vc)
  refine QW.icmp_gt 93 dX1_findStill_17 rfl (fun hc => ?_) (fun hc => ?_)
  · replace vc := vc.1 hc
    refine QW.aload_n dX1_findStill_93 rfl ?_
    refine QW.iconst (0 : Int32) rfl dX1_findStill_94 ?_
    refine FW.putI dX1_findStill_95 lfX1_28 sP_24_3 ?_
    refine QW.aload_n dX1_findStill_98 rfl ?_
    refine QW.iconst (-1 : Int32) rfl dX1_findStill_99 ?_
    refine FW.putI dX1_findStill_100 lfX1_66 sP_24_4 ?_
    refine QW.iconst (0 : Int32) rfl dX1_findStill_103 ?_
    refine QW.istore_n [some (.ref 24), some (.int a1), some (.int a2), some (.int (0 : Int32)), none] dX1_findStill_104 (by decide) rfl rfl ?_
    exact QW.sub (by exact ⟨rfl, ⟨rfl, trivial⟩⟩) vc
  · replace vc := vc.2 hc
    refine QW.iconst (0 : Int32) rfl dX1_findStill_20 ?_
    refine QW.istore [some (.ref 24), some (.int a1), some (.int a2), some (.int a3), some (.int (0 : Int32))] dX1_findStill_21 (by decide) rfl rfl ?_
    exact vc
theorem vX1_findStill_23 {g : QG} {K : Hp → Prop} {h : Hp} {a1 a2 a3 a4 : Int32} (vc : ((h 1 2) ≤ a4 → FV g mX2_tally [.ref 20, .int a1, .int a2] h (fun h1 => ((¬ (0 : Int32) < 0) ∧ (¬ (a3 * (6 : Int32)) < 0) ∧ (¬ (6 : Int32) < 0) ∧ (0 : Int32).toNatClampNeg + (6 : Int32).toNatClampNeg ≤ 6 ∧ (a3 * (6 : Int32)).toNatClampNeg + (6 : Int32).toNatClampNeg ≤ 384) ∧ FW g mX1_findStill 9 [some (.ref 24), some (.int a1), some (.int a2), some (.int (a3 + (1 : Int32))), none] [] (q_upA h1 25 (va_cpy (h1 23) (h1 25) 0 (a3 * (6 : Int32)).toNatClampNeg 6)) (q_RV K))) ∧ (¬ (h 1 2) ≤ a4 → vp_in a4 6 ∧ FW g mX1_findStill 23 [some (.ref 24), some (.int a1), some (.int a2), some (.int a3), some (.int (a4 + (1 : Int32)))] [] (q_up h 21 a4.toNatClampNeg ((a3 >>> (a4 &&& 31)) &&& (1 : Int32))) (q_RV K))) : FW g mX1_findStill 23 [some (.ref 24), some (.int a1), some (.int a2), some (.int a3), some (.int a4)] [] h (q_RV K) := by
  refine QW.iload dX1_findStill_23 rfl ?_
  refine QW.aload_n dX1_findStill_25 rfl ?_
  refine FW.getR dX1_findStill_26 lfX1_15 sR_24_0 ?_
  refine FW.getI (h 1 2) dX1_findStill_29 lfX1_57 sI_1_2 rfl ?_
  refine QW.icmp_ge 57 dX1_findStill_32 rfl (fun hc => ?_) (fun hc => ?_)
  · replace vc := vc.1 hc
    refine QW.aload_n dX1_findStill_57 rfl ?_
    refine FW.getR dX1_findStill_58 lfX1_19 sR_24_1 ?_
    refine QW.iload_n dX1_findStill_61 rfl ?_
    refine QW.iload_n dX1_findStill_62 rfl ?_
    refine FW.callVv [.int a1, .int a2] [] rfl dX1_findStill_63 lmX1_38 sC_20 rfl ⟨Nat.le_of_ble_eq_true rfl, Nat.le_of_ble_eq_true rfl⟩ ⟨rfl, rfl⟩ (Nat.le_of_ble_eq_true rfl) (FV.mono (fun h1 vc => ?_) vc)
    refine QW.aload_n dX1_findStill_66 rfl ?_
    refine FW.getR dX1_findStill_67 lfX1_19 sR_24_1 ?_
    refine FW.getR dX1_findStill_70 lfX1_42 sR_20_4 ?_
    refine QW.iconst (0 : Int32) rfl dX1_findStill_73 ?_
    refine QW.aload_n dX1_findStill_74 rfl ?_
    refine FW.getR dX1_findStill_75 lfX1_9 sR_24_2 ?_
    refine QW.iload_n dX1_findStill_78 rfl ?_
    refine QW.bipush (6 : Int32) rfl dX1_findStill_79 ?_
    refine QW.imul dX1_findStill_81 ?_
    refine QW.bipush (6 : Int32) rfl dX1_findStill_82 ?_
    refine FW.copy dX1_findStill_84 lyX1_60 sA_23 sA_25 vc.1 (Nat.le_of_ble_eq_true rfl) (by decide) ?_
    replace vc := vc.2
    refine QW.iinc (a3 + (1 : Int32)) [some (.ref 24), some (.int a1), some (.int a2), some (.int (a3 + (1 : Int32))), some (.int a4)] dX1_findStill_87 rfl rfl (by decide) rfl rfl ?_
    refine QW.goto 9 dX1_findStill_90 rfl ?_
    exact QW.sub (by exact ⟨rfl, ⟨rfl, ⟨rfl, ⟨rfl, trivial⟩⟩⟩⟩) vc
  · replace vc := vc.2 hc
    refine QW.aload_n dX1_findStill_35 rfl ?_
    refine FW.getR dX1_findStill_36 lfX1_19 sR_24_1 ?_
    refine FW.getR dX1_findStill_39 lfX1_32 sR_20_2 ?_
    refine QW.iload dX1_findStill_42 rfl ?_
    refine QW.iload_n dX1_findStill_44 rfl ?_
    refine QW.iload dX1_findStill_45 rfl ?_
    refine QW.ishr dX1_findStill_47 ?_
    refine QW.iconst (1 : Int32) rfl dX1_findStill_48 ?_
    refine QW.iand dX1_findStill_49 ?_
    refine FW.iast dX1_findStill_50 sA_21 vc.1 ?_
    replace vc := vc.2
    refine QW.iinc (a4 + (1 : Int32)) [some (.ref 24), some (.int a1), some (.int a2), some (.int a3), some (.int (a4 + (1 : Int32)))] dX1_findStill_51 rfl rfl (by decide) rfl rfl ?_
    refine QW.goto 23 dX1_findStill_54 rfl ?_
    exact vc
theorem vX1_findStill_105 {g : QG} {K : Hp → Prop} {h : Hp} {a3 : Int32} (vc : FI g mX6_everyone [.ref 1] h (fun x1 h1 => (x1 < a3 → K h1) ∧ (¬ x1 < a3 → FI g mX1_nobodyWouldChange [.ref 24, .int a3] h1 (fun x2 h2 => (x2 = 0 → FW g mX1_findStill 105 [some (.ref 24), none, none, some (.int (a3 + (1 : Int32))), none] [] h2 (q_RV K)) ∧ (¬ x2 = 0 → (¬ (h2 24 4) = (-1 : Int32) → FW g mX1_findStill 105 [some (.ref 24), none, none, some (.int (a3 + (1 : Int32))), none] [] (q_up (q_up h2 24 3 ((h2 24 3) + (1 : Int32))) 24 4 (h2 24 4)) (q_RV K)) ∧ ((h2 24 4) = (-1 : Int32) → FW g mX1_findStill 105 [some (.ref 24), none, none, some (.int (a3 + (1 : Int32))), none] [] (q_up (q_up h2 24 3 ((h2 24 3) + (1 : Int32))) 24 4 a3) (q_RV K))))))) : FW g mX1_findStill 105 [some (.ref 24), none, none, some (.int a3), none] [] h (q_RV K) := by
  refine QW.iload_n dX1_findStill_105 rfl ?_
  refine QW.aload_n dX1_findStill_106 rfl ?_
  refine FW.getR dX1_findStill_107 lfX1_15 sR_24_0 ?_
  refine FW.callVi [] [.int a3] rfl dX1_findStill_110 lmX1_51 sC_1 rfl ⟨Nat.le_of_ble_eq_true rfl, Nat.le_of_ble_eq_true rfl⟩ ⟨rfl, rfl⟩ (Nat.le_of_ble_eq_true rfl) (FI.mono (fun x1 h1 vc => ?_) vc)
  refine QW.icmp_gt 160 dX1_findStill_113 rfl (fun hc => ?_) (fun hc => ?_)
  · replace vc := vc.1 hc
    exact FW.retV dX1_findStill_160 rfl vc
  · replace vc := vc.2 hc
    refine QW.aload_n dX1_findStill_116 rfl ?_
    refine QW.iload_n dX1_findStill_117 rfl ?_
    refine FW.callVi [.int a3] [] rfl dX1_findStill_118 lmX1_69 sC_24 rfl ⟨Nat.le_of_ble_eq_true rfl, Nat.le_of_ble_eq_true rfl⟩ ⟨rfl, rfl⟩ (Nat.le_of_ble_eq_true rfl) (FI.mono (fun x2 h2 vc => ?_) vc)
    refine QW.if_eq 154 dX1_findStill_121 rfl (fun hc => ?_) (fun hc => ?_)
    · replace vc := vc.1 hc
      refine QW.iinc (a3 + (1 : Int32)) [some (.ref 24), none, none, some (.int (a3 + (1 : Int32))), none] dX1_findStill_154 rfl rfl (by decide) rfl rfl ?_
      refine QW.goto 105 dX1_findStill_157 rfl ?_
      exact vc
    · replace vc := vc.2 hc
      refine QW.aload_n dX1_findStill_124 rfl ?_
      refine QW.dupr dX1_findStill_125 ?_
      refine FW.getI (h2 24 3) dX1_findStill_126 lfX1_28 sI_24_3 rfl ?_
      refine QW.iconst (1 : Int32) rfl dX1_findStill_129 ?_
      refine QW.iadd dX1_findStill_130 ?_
      refine FW.putI dX1_findStill_131 lfX1_28 sP_24_3 ?_
      refine QW.aload_n dX1_findStill_134 rfl ?_
      refine QW.aload_n dX1_findStill_135 rfl ?_
      refine FW.getI (h2 24 4) dX1_findStill_136 lfX1_66 sI_24_4 rfl ?_
      refine QW.iconst (-1 : Int32) rfl dX1_findStill_139 ?_
      refine QW.icmp_ne 147 dX1_findStill_140 rfl (fun hc => ?_) (fun hc => ?_)
      · replace vc := vc.1 hc
        refine QW.aload_n dX1_findStill_147 rfl ?_
        refine FW.getI (h2 24 4) dX1_findStill_148 lfX1_66 sI_24_4 rfl ?_
        refine FW.putI dX1_findStill_151 lfX1_66 sP_24_4 ?_
        refine QW.iinc (a3 + (1 : Int32)) [some (.ref 24), none, none, some (.int (a3 + (1 : Int32))), none] dX1_findStill_154 rfl rfl (by decide) rfl rfl ?_
        refine QW.goto 105 dX1_findStill_157 rfl ?_
        exact vc
      · replace vc := vc.2 hc
        refine QW.iload_n dX1_findStill_143 rfl ?_
        refine QW.goto 151 dX1_findStill_144 rfl ?_
        refine FW.putI dX1_findStill_151 lfX1_66 sP_24_4 ?_
        refine QW.iinc (a3 + (1 : Int32)) [some (.ref 24), none, none, some (.int (a3 + (1 : Int32))), none] dX1_findStill_154 rfl rfl (by decide) rfl rfl ?_
        refine QW.goto 105 dX1_findStill_157 rfl ?_
        exact vc
theorem vX8_layStands_0 {g : QG} {K : Hp → Prop} {h : Hp} {a1 a2 a3 : Int32} (vc : FW g mX8_layStands 3 [some (.ref 44), some (.int a1), some (.int a2), some (.int a3), some (.int (0 : Int32)), none, none] [] h (q_RV K)) : FW g mX8_layStands 0 [some (.ref 44), some (.int a1), some (.int a2), some (.int a3), none, none, none] [] h (q_RV K) := by
  refine QW.iconst (0 : Int32) rfl dX8_layStands_0 ?_
  refine QW.istore [some (.ref 44), some (.int a1), some (.int a2), some (.int a3), some (.int (0 : Int32)), none, none] dX8_layStands_1 (by decide) rfl rfl ?_
  exact vc
theorem vX8_layStands_3 {g : QG} {K : Hp → Prop} {h : Hp} {a1 a2 a3 a4 : Int32} (vc : ((h 44 13) ≤ a4 → FW g mX8_layStands 47 [some (.ref 44), some (.int a1), none, some (.int a3), some (.int a2), none, none] [] h (q_RV K)) ∧ (¬ (h 44 13) ≤ a4 → vp_in a4 6 ∧ vp_in (((6 : Int32) * a1) + a4) 384 ∧ FW g mX8_layStands 3 [some (.ref 44), some (.int a1), some (.int a2), some (.int a3), some (.int (a4 + (1 : Int32))), none, none] [] (q_up (q_up h 51 a4.toNatClampNeg ((a1 >>> (a4 &&& 31)) &&& (1 : Int32))) 58 ((((6 : Int32) * a1) + a4).toNatClampNeg) (0 : Int32)) (q_RV K))) : FW g mX8_layStands 3 [some (.ref 44), some (.int a1), some (.int a2), some (.int a3), some (.int a4), none, none] [] h (q_RV K) := by
  refine QW.iload dX8_layStands_3 rfl ?_
  refine QW.aload_n dX8_layStands_5 rfl ?_
  refine FW.getI (h 44 13) dX8_layStands_6 lfX8_74 sI_44_13 rfl ?_
  refine QW.icmp_ge 44 dX8_layStands_9 rfl (fun hc => ?_) (fun hc => ?_)
  · replace vc := vc.1 hc
    refine QW.iload_n dX8_layStands_44 rfl ?_
    refine QW.istore [some (.ref 44), some (.int a1), some (.int a2), some (.int a3), some (.int a2), none, none] dX8_layStands_45 (by decide) rfl rfl ?_
    exact QW.sub (by exact ⟨rfl, ⟨rfl, ⟨rfl, ⟨rfl, trivial⟩⟩⟩⟩) vc
  · replace vc := vc.2 hc
    refine QW.aload_n dX8_layStands_12 rfl ?_
    refine FW.getR dX8_layStands_13 lfX8_33 sR_44_10 ?_
    refine QW.iload dX8_layStands_16 rfl ?_
    refine QW.iload_n dX8_layStands_18 rfl ?_
    refine QW.iload dX8_layStands_19 rfl ?_
    refine QW.ishr dX8_layStands_21 ?_
    refine QW.iconst (1 : Int32) rfl dX8_layStands_22 ?_
    refine QW.iand dX8_layStands_23 ?_
    refine FW.iast dX8_layStands_24 sA_51 vc.1 ?_
    replace vc := vc.2
    refine QW.aload_n dX8_layStands_25 rfl ?_
    refine FW.getR dX8_layStands_26 lfX8_54 sR_44_27 ?_
    refine QW.bipush (6 : Int32) rfl dX8_layStands_29 ?_
    refine QW.iload_n dX8_layStands_31 rfl ?_
    refine QW.imul dX8_layStands_32 ?_
    refine QW.iload dX8_layStands_33 rfl ?_
    refine QW.iadd dX8_layStands_35 ?_
    refine QW.iconst (0 : Int32) rfl dX8_layStands_36 ?_
    refine FW.iast dX8_layStands_37 sA_58 vc.1 ?_
    replace vc := vc.2
    refine QW.iinc (a4 + (1 : Int32)) [some (.ref 44), some (.int a1), some (.int a2), some (.int a3), some (.int (a4 + (1 : Int32))), none, none] dX8_layStands_38 rfl rfl (by decide) rfl rfl ?_
    refine QW.goto 3 dX8_layStands_41 rfl ?_
    exact vc
theorem vX8_layStands_47 {g : QG} {K : Hp → Prop} {h : Hp} {a1 a3 a4 : Int32} (vc : (a3 < a4 → K h) ∧ (¬ a3 < a4 → FI g mX8_standingAt [.ref 44, .int a4] h (fun x1 h1 => FW g mX8_layStands 64 [some (.ref 44), some (.int a1), none, some (.int a3), some (.int a4), some (.int x1), some (.int (0 : Int32))] [] h1 (q_RV K)))) : FW g mX8_layStands 47 [some (.ref 44), some (.int a1), none, some (.int a3), some (.int a4), none, none] [] h (q_RV K) := by
  refine QW.iload dX8_layStands_47 rfl ?_
  refine QW.iload_n dX8_layStands_49 rfl ?_
  refine QW.icmp_gt 107 dX8_layStands_50 rfl (fun hc => ?_) (fun hc => ?_)
  · replace vc := vc.1 hc
    exact FW.retV dX8_layStands_107 rfl vc
  · replace vc := vc.2 hc
    refine QW.aload_n dX8_layStands_53 rfl ?_
    refine QW.iload dX8_layStands_54 rfl ?_
    refine FW.callVi [.int a4] [] rfl dX8_layStands_56 lmX8_232 sC_44 rfl ⟨Nat.le_of_ble_eq_true rfl, Nat.le_of_ble_eq_true rfl⟩ ⟨rfl, rfl⟩ (Nat.le_of_ble_eq_true rfl) (FI.mono (fun x1 h1 vc => ?_) vc)
    refine QW.istore [some (.ref 44), some (.int a1), none, some (.int a3), some (.int a4), some (.int x1), none] dX8_layStands_59 (by decide) rfl rfl ?_
    refine QW.iconst (0 : Int32) rfl dX8_layStands_61 ?_
    refine QW.istore [some (.ref 44), some (.int a1), none, some (.int a3), some (.int a4), some (.int x1), some (.int (0 : Int32))] dX8_layStands_62 (by decide) rfl rfl ?_
    exact vc
theorem vX8_layStands_64 {g : QG} {K : Hp → Prop} {h : Hp} {a1 a3 a4 a5 a6 : Int32} (vc : ((h 44 13) ≤ a6 → FW g mX8_layStands 47 [some (.ref 44), some (.int a1), none, some (.int a3), some (.int (a4 + (1 : Int32))), none, none] [] h (q_RV K)) ∧ (¬ (h 44 13) ≤ a6 → vp_in (((6 : Int32) * a1) + a6) 384 ∧ vp_in (((6 : Int32) * a1) + a6) 384 ∧ FW g mX8_layStands 64 [some (.ref 44), some (.int a1), none, some (.int a3), some (.int a4), some (.int a5), some (.int (a6 + (1 : Int32)))] [] (q_up h 58 ((((6 : Int32) * a1) + a6).toNatClampNeg) ((h 58 ((((6 : Int32) * a1) + a6).toNatClampNeg)) + ((a5 >>> (a6 &&& 31)) &&& (1 : Int32)))) (q_RV K))) : FW g mX8_layStands 64 [some (.ref 44), some (.int a1), none, some (.int a3), some (.int a4), some (.int a5), some (.int a6)] [] h (q_RV K) := by
  refine QW.iload dX8_layStands_64 rfl ?_
  refine QW.aload_n dX8_layStands_66 rfl ?_
  refine FW.getI (h 44 13) dX8_layStands_67 lfX8_74 sI_44_13 rfl ?_
  refine QW.icmp_ge 101 dX8_layStands_70 rfl (fun hc => ?_) (fun hc => ?_)
  · replace vc := vc.1 hc
    refine QW.iinc (a4 + (1 : Int32)) [some (.ref 44), some (.int a1), none, some (.int a3), some (.int (a4 + (1 : Int32))), some (.int a5), some (.int a6)] dX8_layStands_101 rfl rfl (by decide) rfl rfl ?_
    refine QW.goto 47 dX8_layStands_104 rfl ?_
    exact QW.sub (by exact ⟨rfl, ⟨rfl, ⟨rfl, ⟨rfl, trivial⟩⟩⟩⟩) vc
  · replace vc := vc.2 hc
    refine QW.aload_n dX8_layStands_73 rfl ?_
    refine FW.getR dX8_layStands_74 lfX8_54 sR_44_27 ?_
    refine QW.bipush (6 : Int32) rfl dX8_layStands_77 ?_
    refine QW.iload_n dX8_layStands_79 rfl ?_
    refine QW.imul dX8_layStands_80 ?_
    refine QW.iload dX8_layStands_81 rfl ?_
    refine QW.iadd dX8_layStands_83 ?_
    refine QW.dup2ir dX8_layStands_84 ?_
    refine FW.iald (h 58 ((((6 : Int32) * a1) + a6).toNatClampNeg)) dX8_layStands_85 sA_58 vc.1 rfl ?_
    replace vc := vc.2
    refine QW.iload dX8_layStands_86 rfl ?_
    refine QW.iload dX8_layStands_88 rfl ?_
    refine QW.ishr dX8_layStands_90 ?_
    refine QW.iconst (1 : Int32) rfl dX8_layStands_91 ?_
    refine QW.iand dX8_layStands_92 ?_
    refine QW.iadd dX8_layStands_93 ?_
    refine FW.iast dX8_layStands_94 sA_58 vc.1 ?_
    replace vc := vc.2
    refine QW.iinc (a6 + (1 : Int32)) [some (.ref 44), some (.int a1), none, some (.int a3), some (.int a4), some (.int a5), some (.int (a6 + (1 : Int32)))] dX8_layStands_95 rfl rfl (by decide) rfl rfl ?_
    refine QW.goto 64 dX8_layStands_98 rfl ?_
    exact vc
theorem vX1_findPlot_0 {g : QG} {K : Hp → Prop} {h : Hp} {a1 a2 a3 : Int32} (vc : FW g mX1_findPlot 13 [some (.ref 24), some (.int a1), some (.int a2), some (.int a3), some (.int (0 : Int32)), none] [] (q_up (q_up h 24 3 (-1 : Int32)) 24 4 (-1 : Int32)) (q_RV K)) : FW g mX1_findPlot 0 [some (.ref 24), some (.int a1), some (.int a2), some (.int a3), none, none] [] h (q_RV K) := by
  refine QW.aload_n dX1_findPlot_0 rfl ?_
  refine QW.iconst (-1 : Int32) rfl dX1_findPlot_1 ?_
  refine FW.putI dX1_findPlot_2 lfX1_28 sP_24_3 ?_
  refine QW.aload_n dX1_findPlot_5 rfl ?_
  refine QW.iconst (-1 : Int32) rfl dX1_findPlot_6 ?_
  refine FW.putI dX1_findPlot_7 lfX1_66 sP_24_4 ?_
  refine QW.iconst (0 : Int32) rfl dX1_findPlot_10 ?_
  refine QW.istore [some (.ref 24), some (.int a1), some (.int a2), some (.int a3), some (.int (0 : Int32)), none] dX1_findPlot_11 (by decide) rfl rfl ?_
  exact vc
theorem vX1_findPlot_13 {g : QG} {K : Hp → Prop} {h : Hp} {a1 a2 a3 a4 : Int32} (vc : (a2 < a4 → K h) ∧ (¬ a2 < a4 → FI g mJ6_bitCount_0f7a4 [.int a4] h (fun x1 h1 => (¬ (a4 &&& (a2 ^^^ (-1 : Int32))) = 0 → FW g mX1_findPlot 13 [some (.ref 24), some (.int a1), some (.int a2), some (.int a3), some (.int (a4 + (1 : Int32))), none] [] h1 (q_RV K)) ∧ ((a4 &&& (a2 ^^^ (-1 : Int32))) = 0 → ((h1 24 3) = (-1 : Int32) → FW g mX1_findPlot 52 [some (.ref 24), some (.int a1), some (.int a2), some (.int a3), some (.int a4), some (.int x1)] [] h1 (q_RV K)) ∧ (¬ (h1 24 3) = (-1 : Int32) → ((h1 24 3) ≤ x1 → FW g mX1_findPlot 13 [some (.ref 24), some (.int a1), some (.int a2), some (.int a3), some (.int (a4 + (1 : Int32))), none] [] h1 (q_RV K)) ∧ (¬ (h1 24 3) ≤ x1 → FW g mX1_findPlot 52 [some (.ref 24), some (.int a1), some (.int a2), some (.int a3), some (.int a4), some (.int x1)] [] h1 (q_RV K))))))) : FW g mX1_findPlot 13 [some (.ref 24), some (.int a1), some (.int a2), some (.int a3), some (.int a4), none] [] h (q_RV K) := by
  refine QW.iload dX1_findPlot_13 rfl ?_
  refine QW.iload_n dX1_findPlot_15 rfl ?_
  refine QW.icmp_gt 91 dX1_findPlot_16 rfl (fun hc => ?_) (fun hc => ?_)
  · replace vc := vc.1 hc
    exact FW.retV dX1_findPlot_91 rfl vc
  · replace vc := vc.2 hc
    refine QW.iload dX1_findPlot_19 rfl ?_
    refine FW.callSi [.int a4] [] rfl dX1_findPlot_21 lmX1_73 rfl ⟨Nat.le_of_ble_eq_true rfl, Nat.le_of_ble_eq_true rfl⟩ ⟨rfl, rfl⟩ (Nat.le_of_ble_eq_true rfl) (FI.mono (fun x1 h1 vc => ?_) vc)
    refine QW.istore [some (.ref 24), some (.int a1), some (.int a2), some (.int a3), some (.int a4), some (.int x1)] dX1_findPlot_24 (by decide) rfl rfl ?_
    refine QW.iload dX1_findPlot_26 rfl ?_
    refine QW.iload_n dX1_findPlot_28 rfl ?_
    refine QW.iconst (-1 : Int32) rfl dX1_findPlot_29 ?_
    refine QW.ixor dX1_findPlot_30 ?_
    refine QW.iand dX1_findPlot_31 ?_
    refine QW.if_ne 85 dX1_findPlot_32 rfl (fun hc => ?_) (fun hc => ?_)
    · replace vc := vc.1 hc
      refine QW.iinc (a4 + (1 : Int32)) [some (.ref 24), some (.int a1), some (.int a2), some (.int a3), some (.int (a4 + (1 : Int32))), some (.int x1)] dX1_findPlot_85 rfl rfl (by decide) rfl rfl ?_
      refine QW.goto 13 dX1_findPlot_88 rfl ?_
      exact QW.sub (by exact ⟨rfl, ⟨rfl, ⟨rfl, ⟨rfl, ⟨rfl, trivial⟩⟩⟩⟩⟩) vc
    · replace vc := vc.2 hc
      refine QW.aload_n dX1_findPlot_35 rfl ?_
      refine FW.getI (h1 24 3) dX1_findPlot_36 lfX1_28 sI_24_3 rfl ?_
      refine QW.iconst (-1 : Int32) rfl dX1_findPlot_39 ?_
      refine QW.icmp_eq 52 dX1_findPlot_40 rfl (fun hc => ?_) (fun hc => ?_)
      · replace vc := vc.1 hc
        exact vc
      · replace vc := vc.2 hc
        refine QW.iload dX1_findPlot_43 rfl ?_
        refine QW.aload_n dX1_findPlot_45 rfl ?_
        refine FW.getI (h1 24 3) dX1_findPlot_46 lfX1_28 sI_24_3 rfl ?_
        refine QW.icmp_ge 85 dX1_findPlot_49 rfl (fun hc => ?_) (fun hc => ?_)
        · replace vc := vc.1 hc
          refine QW.iinc (a4 + (1 : Int32)) [some (.ref 24), some (.int a1), some (.int a2), some (.int a3), some (.int (a4 + (1 : Int32))), some (.int x1)] dX1_findPlot_85 rfl rfl (by decide) rfl rfl ?_
          refine QW.goto 13 dX1_findPlot_88 rfl ?_
          exact QW.sub (by exact ⟨rfl, ⟨rfl, ⟨rfl, ⟨rfl, ⟨rfl, trivial⟩⟩⟩⟩⟩) vc
        · replace vc := vc.2 hc
          exact vc
theorem vX1_findPlot_52 {g : QG} {K : Hp → Prop} {h : Hp} {a1 a2 a3 a4 a5 : Int32} (vc : FV g mX1_keepStill [.ref 24, .int a4] h (fun h1 => FI g mX2_stoodAt [.ref 20, .int a3] h1 (fun x2 h2 => FI g mX7_holds [.int x2, .int a1] h2 (fun x3 h3 => (x3 = 0 → FW g mX1_findPlot 13 [some (.ref 24), some (.int a1), some (.int a2), some (.int a3), some (.int (a4 + (1 : Int32))), none] [] h3 (q_RV K)) ∧ (¬ x3 = 0 → FW g mX1_findPlot 13 [some (.ref 24), some (.int a1), some (.int a2), some (.int a3), some (.int (a4 + (1 : Int32))), none] [] (q_up (q_up h3 24 3 a5) 24 4 a4) (q_RV K)))))) : FW g mX1_findPlot 52 [some (.ref 24), some (.int a1), some (.int a2), some (.int a3), some (.int a4), some (.int a5)] [] h (q_RV K) := by
  refine QW.aload_n dX1_findPlot_52 rfl ?_
  refine QW.iload dX1_findPlot_53 rfl ?_
  refine FW.callVv [.int a4] [] rfl dX1_findPlot_55 lmX1_79 sC_24 rfl ⟨Nat.le_of_ble_eq_true rfl, Nat.le_of_ble_eq_true rfl⟩ ⟨rfl, rfl⟩ (Nat.le_of_ble_eq_true rfl) (FV.mono (fun h1 vc => ?_) vc)
  refine QW.aload_n dX1_findPlot_58 rfl ?_
  refine FW.getR dX1_findPlot_59 lfX1_19 sR_24_1 ?_
  refine QW.iload_n dX1_findPlot_62 rfl ?_
  refine FW.callVi [.int a3] [] rfl dX1_findPlot_63 lmX1_83 sC_20 rfl ⟨Nat.le_of_ble_eq_true rfl, Nat.le_of_ble_eq_true rfl⟩ ⟨rfl, rfl⟩ (Nat.le_of_ble_eq_true rfl) (FI.mono (fun x2 h2 vc => ?_) vc)
  refine QW.iload_n dX1_findPlot_66 rfl ?_
  refine FW.callNi [.int x2, .int a1] [] rfl dX1_findPlot_67 lmX1_86 rfl ⟨Nat.le_of_ble_eq_true rfl, Nat.le_of_ble_eq_true rfl⟩ ⟨rfl, rfl⟩ (Nat.le_of_ble_eq_true rfl) (FI.mono (fun x3 h3 vc => ?_) vc)
  refine QW.if_eq 85 dX1_findPlot_70 rfl (fun hc => ?_) (fun hc => ?_)
  · replace vc := vc.1 hc
    refine QW.iinc (a4 + (1 : Int32)) [some (.ref 24), some (.int a1), some (.int a2), some (.int a3), some (.int (a4 + (1 : Int32))), some (.int a5)] dX1_findPlot_85 rfl rfl (by decide) rfl rfl ?_
    refine QW.goto 13 dX1_findPlot_88 rfl ?_
    exact QW.sub (by exact ⟨rfl, ⟨rfl, ⟨rfl, ⟨rfl, ⟨rfl, trivial⟩⟩⟩⟩⟩) vc
  · replace vc := vc.2 hc
    refine QW.aload_n dX1_findPlot_73 rfl ?_
    refine QW.iload dX1_findPlot_74 rfl ?_
    refine FW.putI dX1_findPlot_76 lfX1_28 sP_24_3 ?_
    refine QW.aload_n dX1_findPlot_79 rfl ?_
    refine QW.iload dX1_findPlot_80 rfl ?_
    refine FW.putI dX1_findPlot_82 lfX1_66 sP_24_4 ?_
    refine QW.iinc (a4 + (1 : Int32)) [some (.ref 24), some (.int a1), some (.int a2), some (.int a3), some (.int (a4 + (1 : Int32))), some (.int a5)] dX1_findPlot_85 rfl rfl (by decide) rfl rfl ?_
    refine QW.goto 13 dX1_findPlot_88 rfl ?_
    exact QW.sub (by exact ⟨rfl, ⟨rfl, ⟨rfl, ⟨rfl, ⟨rfl, trivial⟩⟩⟩⟩⟩) vc
theorem vX1_findLaid_0 {g : QG} {K : Hp → Prop} {h : Hp} {a1 a2 a3 : Int32} (vc : FV g mX2_asTold [.ref 20] h (fun h1 => FW g mX1_findLaid 21 [some (.ref 24), some (.int a1), some (.int a2), some (.int a3), some (.int (0 : Int32)), none] [] (q_up (q_up h1 24 3 (101 : Int32)) 24 4 (-1 : Int32)) (q_RV K))) : FW g mX1_findLaid 0 [some (.ref 24), some (.int a1), some (.int a2), some (.int a3), none, none] [] h (q_RV K) := by
  refine QW.aload_n dX1_findLaid_0 rfl ?_
  refine FW.getR dX1_findLaid_1 lfX1_19 sR_24_1 ?_
  refine FW.callVv [] [] rfl dX1_findLaid_4 lmX1_23 sC_20 rfl ⟨Nat.le_of_ble_eq_true rfl, Nat.le_of_ble_eq_true rfl⟩ ⟨rfl, rfl⟩ (Nat.le_of_ble_eq_true rfl) (FV.mono (fun h1 vc => ?_) vc)
  refine QW.aload_n dX1_findLaid_7 rfl ?_
  refine QW.bipush (101 : Int32) rfl dX1_findLaid_8 ?_
  refine FW.putI dX1_findLaid_10 lfX1_28 sP_24_3 ?_
  refine QW.aload_n dX1_findLaid_13 rfl ?_
  refine QW.iconst (-1 : Int32) rfl dX1_findLaid_14 ?_
  refine FW.putI dX1_findLaid_15 lfX1_66 sP_24_4 ?_
  refine QW.iconst (0 : Int32) rfl dX1_findLaid_18 ?_
  refine QW.istore [some (.ref 24), some (.int a1), some (.int a2), some (.int a3), some (.int (0 : Int32)), none] dX1_findLaid_19 (by decide) rfl rfl ?_
  exact vc
theorem vX1_findLaid_21 {g : QG} {K : Hp → Prop} {h : Hp} {a1 a2 a3 a4 : Int32} (vc : (((1 : Int32) <<< ((h 1 0) &&& 31)) ≤ a4 → K h) ∧ (¬ ((1 : Int32) <<< ((h 1 0) &&& 31)) ≤ a4 → ((h 24 3) ≤ 0 → K h) ∧ (¬ (h 24 3) ≤ 0 → FI g mJ6_bitCount_0f7a4 [.int a4] h (fun x1 h1 => (¬ x1 = a1 → FW g mX1_findLaid 21 [some (.ref 24), some (.int a1), some (.int a2), some (.int a3), some (.int (a4 + (1 : Int32))), none] [] h1 (q_RV K)) ∧ (x1 = a1 → FV g mX2_tally [.ref 20, .int a2, .int a3] (q_up h1 20 6 a4) (fun h2 => FI g mX2_spread [.ref 20] h2 (fun x3 h3 => ((h3 24 3) ≤ x3 → FW g mX1_findLaid 21 [some (.ref 24), some (.int a1), some (.int a2), some (.int a3), some (.int (a4 + (1 : Int32))), none] [] h3 (q_RV K)) ∧ (¬ (h3 24 3) ≤ x3 → FW g mX1_findLaid 21 [some (.ref 24), some (.int a1), some (.int a2), some (.int a3), some (.int (a4 + (1 : Int32))), none] [] (q_up (q_up h3 24 3 x3) 24 4 a4) (q_RV K))))))))) : FW g mX1_findLaid 21 [some (.ref 24), some (.int a1), some (.int a2), some (.int a3), some (.int a4), none] [] h (q_RV K) := by
  refine QW.iload dX1_findLaid_21 rfl ?_
  refine QW.iconst (1 : Int32) rfl dX1_findLaid_23 ?_
  refine QW.aload_n dX1_findLaid_24 rfl ?_
  refine FW.getR dX1_findLaid_25 lfX1_15 sR_24_0 ?_
  refine FW.getI (h 1 0) dX1_findLaid_28 lfX1_90 sI_1_0 rfl ?_
  refine QW.ishl dX1_findLaid_31 ?_
  refine QW.icmp_ge 105 dX1_findLaid_32 rfl (fun hc => ?_) (fun hc => ?_)
  · replace vc := vc.1 hc
    exact FW.retV dX1_findLaid_105 rfl vc
  · replace vc := vc.2 hc
    refine QW.aload_n dX1_findLaid_35 rfl ?_
    refine FW.getI (h 24 3) dX1_findLaid_36 lfX1_28 sI_24_3 rfl ?_
    refine QW.if_le 105 dX1_findLaid_39 rfl (fun hc => ?_) (fun hc => ?_)
    · replace vc := vc.1 hc
      exact FW.retV dX1_findLaid_105 rfl vc
    · replace vc := vc.2 hc
      refine QW.iload dX1_findLaid_42 rfl ?_
      refine FW.callSi [.int a4] [] rfl dX1_findLaid_44 lmX1_73 rfl ⟨Nat.le_of_ble_eq_true rfl, Nat.le_of_ble_eq_true rfl⟩ ⟨rfl, rfl⟩ (Nat.le_of_ble_eq_true rfl) (FI.mono (fun x1 h1 vc => ?_) vc)
      refine QW.iload_n dX1_findLaid_47 rfl ?_
      refine QW.icmp_ne 99 dX1_findLaid_48 rfl (fun hc => ?_) (fun hc => ?_)
      · replace vc := vc.1 hc
        refine QW.iinc (a4 + (1 : Int32)) [some (.ref 24), some (.int a1), some (.int a2), some (.int a3), some (.int (a4 + (1 : Int32))), none] dX1_findLaid_99 rfl rfl (by decide) rfl rfl ?_
        refine QW.goto 21 dX1_findLaid_102 rfl ?_
        exact vc
      · replace vc := vc.2 hc
        refine QW.aload_n dX1_findLaid_51 rfl ?_
        refine FW.getR dX1_findLaid_52 lfX1_19 sR_24_1 ?_
        refine QW.iload dX1_findLaid_55 rfl ?_
        refine FW.putI dX1_findLaid_57 lfX1_93 sP_20_6 ?_
        refine QW.aload_n dX1_findLaid_60 rfl ?_
        refine FW.getR dX1_findLaid_61 lfX1_19 sR_24_1 ?_
        refine QW.iload_n dX1_findLaid_64 rfl ?_
        refine QW.iload_n dX1_findLaid_65 rfl ?_
        refine FW.callVv [.int a2, .int a3] [] rfl dX1_findLaid_66 lmX1_38 sC_20 rfl ⟨Nat.le_of_ble_eq_true rfl, Nat.le_of_ble_eq_true rfl⟩ ⟨rfl, rfl⟩ (Nat.le_of_ble_eq_true rfl) (FV.mono (fun h2 vc => ?_) vc)
        refine QW.aload_n dX1_findLaid_69 rfl ?_
        refine FW.getR dX1_findLaid_70 lfX1_19 sR_24_1 ?_
        refine FW.callVi [] [] rfl dX1_findLaid_73 lmX1_96 sC_20 rfl ⟨Nat.le_of_ble_eq_true rfl, Nat.le_of_ble_eq_true rfl⟩ ⟨rfl, rfl⟩ (Nat.le_of_ble_eq_true rfl) (FI.mono (fun x3 h3 vc => ?_) vc)
        refine QW.istore [some (.ref 24), some (.int a1), some (.int a2), some (.int a3), some (.int a4), some (.int x3)] dX1_findLaid_76 (by decide) rfl rfl ?_
        refine QW.iload dX1_findLaid_78 rfl ?_
        refine QW.aload_n dX1_findLaid_80 rfl ?_
        refine FW.getI (h3 24 3) dX1_findLaid_81 lfX1_28 sI_24_3 rfl ?_
        refine QW.icmp_ge 99 dX1_findLaid_84 rfl (fun hc => ?_) (fun hc => ?_)
        · replace vc := vc.1 hc
          refine QW.iinc (a4 + (1 : Int32)) [some (.ref 24), some (.int a1), some (.int a2), some (.int a3), some (.int (a4 + (1 : Int32))), some (.int x3)] dX1_findLaid_99 rfl rfl (by decide) rfl rfl ?_
          refine QW.goto 21 dX1_findLaid_102 rfl ?_
          exact QW.sub (by exact ⟨rfl, ⟨rfl, ⟨rfl, ⟨rfl, ⟨rfl, trivial⟩⟩⟩⟩⟩) vc
        · replace vc := vc.2 hc
          refine QW.aload_n dX1_findLaid_87 rfl ?_
          refine QW.iload dX1_findLaid_88 rfl ?_
          refine FW.putI dX1_findLaid_90 lfX1_28 sP_24_3 ?_
          refine QW.aload_n dX1_findLaid_93 rfl ?_
          refine QW.iload dX1_findLaid_94 rfl ?_
          refine FW.putI dX1_findLaid_96 lfX1_66 sP_24_4 ?_
          refine QW.iinc (a4 + (1 : Int32)) [some (.ref 24), some (.int a1), some (.int a2), some (.int a3), some (.int (a4 + (1 : Int32))), some (.int x3)] dX1_findLaid_99 rfl rfl (by decide) rfl rfl ?_
          refine QW.goto 21 dX1_findLaid_102 rfl ?_
          exact QW.sub (by exact ⟨rfl, ⟨rfl, ⟨rfl, ⟨rfl, ⟨rfl, trivial⟩⟩⟩⟩⟩) vc
