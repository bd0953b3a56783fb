theorem vX2_playRounds_0 {g : QG} {K : Int32 → Hp → Prop} {h : Hp} {a1 : Int32} (vc : FV g mX2_asTold [.ref 20] h (fun h1 => FW g mX2_playRounds 6 [some (.ref 20), some (.int a1), some (.int (0 : Int32)), none] [] h1 (q_RI K))) : FW g mX2_playRounds 0 [some (.ref 20), some (.int a1), none, none] [] h (q_RI K) := by
  refine QW.aload_n dX2_playRounds_0 rfl ?_
  refine FW.callVv [] [] rfl dX2_playRounds_1 lmX2_105 sC_20 rfl ⟨Nat.le_of_ble_eq_true rfl, Nat.le_of_ble_eq_true rfl⟩ ⟨rfl, rfl⟩ (Nat.le_of_ble_eq_true rfl) (FV.mono (fun h1 vc => ?_) vc)
  refine QW.iconst (0 : Int32) rfl dX2_playRounds_4 ?_
  refine QW.istore_n [some (.ref 20), some (.int a1), some (.int (0 : Int32)), none] dX2_playRounds_5 (by decide) rfl rfl ?_
  exact vc
theorem vX2_playRounds_6 {g : QG} {K : Int32 → Hp → Prop} {h : Hp} {a1 a2 : Int32} (vc : ((6 : Int32) < a2 → K a2 h) ∧ (¬ (6 : Int32) < a2 → FI g mJ6_bitCount_0f7a4 [.int (h 20 5)] h (fun x1 h1 => (x1 ≤ (1 : Int32) → K a2 h1) ∧ (¬ x1 ≤ (1 : Int32) → FI g mX2_stoodAt [.ref 20, .int a1] h1 (fun x2 h2 => (¬ x2 = 0 → FW g mX2_playRounds 6 [some (.ref 20), some (.int a1), some (.int (a2 + (1 : Int32))), none] [] (q_up (q_up h2 20 5 ((h2 20 5) &&& (x2 ^^^ (-1 : Int32)))) 20 6 ((h2 20 6) &&& ((h2 20 6) - (1 : Int32)))) (q_RI K)) ∧ (x2 = 0 → K (a2 + (1 : Int32)) h2)))))) : FW g mX2_playRounds 6 [some (.ref 20), some (.int a1), some (.int a2), none] [] h (q_RI K) := by
  refine QW.iload_n dX2_playRounds_6 rfl ?_
  refine QW.bipush (6 : Int32) rfl dX2_playRounds_7 ?_
  refine QW.icmp_gt 69 dX2_playRounds_9 rfl (fun hc => ?_) (fun hc => ?_)
  · replace vc := vc.1 hc
    refine QW.iload_n dX2_playRounds_69 rfl ?_
    exact FW.ret dX2_playRounds_70 rfl vc
  · replace vc := vc.2 hc
    refine QW.aload_n dX2_playRounds_12 rfl ?_
    refine FW.getI (h 20 5) dX2_playRounds_13 lfX2_43 sI_20_5 rfl ?_
    refine FW.callSi [.int (h 20 5)] [] rfl dX2_playRounds_16 lmX2_108 rfl ⟨Nat.le_of_ble_eq_true rfl, Nat.le_of_ble_eq_true rfl⟩ ⟨rfl, rfl⟩ (Nat.le_of_ble_eq_true rfl) (FI.mono (fun x1 h1 vc => ?_) vc)
    refine QW.iconst (1 : Int32) rfl dX2_playRounds_19 ?_
    refine QW.icmp_le 69 dX2_playRounds_20 rfl (fun hc => ?_) (fun hc => ?_)
    · replace vc := vc.1 hc
      refine QW.iload_n dX2_playRounds_69 rfl ?_
      exact FW.ret dX2_playRounds_70 rfl vc
    · replace vc := vc.2 hc
      refine QW.aload_n dX2_playRounds_23 rfl ?_
      refine QW.iload_n dX2_playRounds_24 rfl ?_
      refine FW.callVi [.int a1] [] rfl dX2_playRounds_25 lmX2_114 sC_20 rfl ⟨Nat.le_of_ble_eq_true rfl, Nat.le_of_ble_eq_true rfl⟩ ⟨rfl, rfl⟩ (Nat.le_of_ble_eq_true rfl) (FI.mono (fun x2 h2 vc => ?_) vc)
      refine QW.istore_n [some (.ref 20), some (.int a1), some (.int a2), some (.int x2)] dX2_playRounds_28 (by decide) rfl rfl ?_
      refine QW.iinc (a2 + (1 : Int32)) [some (.ref 20), some (.int a1), some (.int (a2 + (1 : Int32))), some (.int x2)] dX2_playRounds_29 rfl rfl (by decide) rfl rfl ?_
      refine QW.iload_n dX2_playRounds_32 rfl ?_
      refine QW.if_ne 39 dX2_playRounds_33 rfl (fun hc => ?_) (fun hc => ?_)
      · replace vc := vc.1 hc
        refine QW.aload_n dX2_playRounds_39 rfl ?_
        refine QW.dupr dX2_playRounds_40 ?_
        refine FW.getI (h2 20 5) dX2_playRounds_41 lfX2_43 sI_20_5 rfl ?_
        refine QW.iload_n dX2_playRounds_44 rfl ?_
        refine QW.iconst (-1 : Int32) rfl dX2_playRounds_45 ?_
        refine QW.ixor dX2_playRounds_46 ?_
        refine QW.iand dX2_playRounds_47 ?_
        refine FW.putI dX2_playRounds_48 lfX2_43 sP_20_5 ?_
        refine QW.aload_n dX2_playRounds_51 rfl ?_
        refine QW.dupr dX2_playRounds_52 ?_
        refine FW.getI (h2 20 6) dX2_playRounds_53 lfX2_50 sI_20_6 rfl ?_
        refine QW.aload_n dX2_playRounds_56 rfl ?_
        refine FW.getI (h2 20 6) dX2_playRounds_57 lfX2_50 sI_20_6 rfl ?_
        refine QW.iconst (1 : Int32) rfl dX2_playRounds_60 ?_
        refine QW.isub dX2_playRounds_61 ?_
        refine QW.iand dX2_playRounds_62 ?_
        refine FW.putI dX2_playRounds_63 lfX2_50 sP_20_6 ?_
        refine QW.goto 6 dX2_playRounds_66 rfl ?_
        exact QW.sub (by exact ⟨rfl, ⟨rfl, ⟨rfl, trivial⟩⟩⟩) vc
      · replace vc := vc.2 hc
        refine QW.goto 69 dX2_playRounds_36 rfl ?_
        refine QW.iload_n dX2_playRounds_69 rfl ?_
        exact FW.ret dX2_playRounds_70 rfl vc
theorem vX1_findFits_0 {g : QG} {K : Hp → Prop} {h : Hp} (vc : FV g mX2_asTold [.ref 20] h (fun h1 => FW g mX1_findFits 19 [some (.ref 24), some (.ref 41), some (.int (0 : Int32))] [] (q_up (q_up h1 24 3 (0 : Int32)) 24 4 (-1 : Int32)) (q_RV K))) : FW g mX1_findFits 0 [some (.ref 24), some (.ref 41), none] [] h (q_RV K) := by
  refine QW.aload_n dX1_findFits_0 rfl ?_
  refine FW.getR dX1_findFits_1 lfX1_19 sR_24_1 ?_
  refine FW.callVv [] [] rfl dX1_findFits_4 lmX1_23 sC_20 rfl ⟨Nat.le_of_ble_eq_true rfl, Nat.le_of_ble_eq_true rfl⟩ ⟨rfl, rfl⟩ (Nat.le_of_ble_eq_true rfl) (FV.mono (fun h1 vc => ?_) vc)
  refine QW.aload_n dX1_findFits_7 rfl ?_
  refine QW.iconst (0 : Int32) rfl dX1_findFits_8 ?_
  refine FW.putI dX1_findFits_9 lfX1_28 sP_24_3 ?_
  refine QW.aload_n dX1_findFits_12 rfl ?_
  refine QW.iconst (-1 : Int32) rfl dX1_findFits_13 ?_
  refine FW.putI dX1_findFits_14 lfX1_66 sP_24_4 ?_
  refine QW.iconst (0 : Int32) rfl dX1_findFits_17 ?_
  refine QW.istore_n [some (.ref 24), some (.ref 41), some (.int (0 : Int32))] dX1_findFits_18 (by decide) rfl rfl ?_
  exact vc
theorem vX1_findFits_19 {g : QG} {K : Hp → Prop} {h : Hp} {a2 : Int32} (vc : ((h 1 0) ≤ a2 → K h) ∧ (¬ (h 1 0) ≤ a2 → FI g mX2_stoodAt [.ref 20, .int a2] h (fun x1 h1 => FI g mX4_fit [.ref 41, .int x1] h1 (fun x2 h2 => (x2 = 0 → FW g mX1_findFits 19 [some (.ref 24), some (.ref 41), some (.int (a2 + (1 : Int32)))] [] h2 (q_RV K)) ∧ (¬ x2 = 0 → FI g mX2_minutesLike [.ref 20, .int a2, .int (0 : Int32), .int (99 : Int32)] h2 (fun x3 h3 => (¬ (h3 24 4) = (-1 : Int32) → FW g mX1_findFits 19 [some (.ref 24), some (.ref 41), some (.int (a2 + (1 : Int32)))] [] (q_up (q_up h3 24 3 ((h2 24 3) + x3)) 24 4 (h3 24 4)) (q_RV K)) ∧ ((h3 24 4) = (-1 : Int32) → FW g mX1_findFits 19 [some (.ref 24), some (.ref 41), some (.int (a2 + (1 : Int32)))] [] (q_up (q_up h3 24 3 ((h2 24 3) + x3)) 24 4 a2) (q_RV K)))))))) : FW g mX1_findFits 19 [some (.ref 24), some (.ref 41), some (.int a2)] [] h (q_RV K) := by
  refine QW.iload_n dX1_findFits_19 rfl ?_
  refine QW.aload_n dX1_findFits_20 rfl ?_
  refine FW.getR dX1_findFits_21 lfX1_15 sR_24_0 ?_
  refine FW.getI (h 1 0) dX1_findFits_24 lfX1_90 sI_1_0 rfl ?_
  refine QW.icmp_ge 91 dX1_findFits_27 rfl (fun hc => ?_) (fun hc => ?_)
  · replace vc := vc.1 hc
    exact FW.retV dX1_findFits_91 rfl vc
  · replace vc := vc.2 hc
    refine QW.aload_n dX1_findFits_30 rfl ?_
    refine QW.aload_n dX1_findFits_31 rfl ?_
    refine FW.getR dX1_findFits_32 lfX1_19 sR_24_1 ?_
    refine QW.iload_n dX1_findFits_35 rfl ?_
    refine FW.callVi [.int a2] [.ref 41] rfl dX1_findFits_36 lmX1_83 sC_20 rfl ⟨Nat.le_of_ble_eq_true rfl, Nat.le_of_ble_eq_true rfl⟩ ⟨rfl, rfl⟩ (Nat.le_of_ble_eq_true rfl) (FI.mono (fun x1 h1 vc => ?_) vc)
    refine FW.callVi [.int x1] [] rfl dX1_findFits_39 lmX1_99 sC_41 rfl ⟨Nat.le_of_ble_eq_true rfl, Nat.le_of_ble_eq_true rfl⟩ ⟨rfl, rfl⟩ (Nat.le_of_ble_eq_true rfl) (FI.mono (fun x2 h2 vc => ?_) vc)
    refine QW.if_eq 85 dX1_findFits_42 rfl (fun hc => ?_) (fun hc => ?_)
    · replace vc := vc.1 hc
      refine QW.iinc (a2 + (1 : Int32)) [some (.ref 24), some (.ref 41), some (.int (a2 + (1 : Int32)))] dX1_findFits_85 rfl rfl (by decide) rfl rfl ?_
      refine QW.goto 19 dX1_findFits_88 rfl ?_
      exact vc
    · replace vc := vc.2 hc
      refine QW.aload_n dX1_findFits_45 rfl ?_
      refine QW.dupr dX1_findFits_46 ?_
      refine FW.getI (h2 24 3) dX1_findFits_47 lfX1_28 sI_24_3 rfl ?_
      refine QW.aload_n dX1_findFits_50 rfl ?_
      refine FW.getR dX1_findFits_51 lfX1_19 sR_24_1 ?_
      refine QW.iload_n dX1_findFits_54 rfl ?_
      refine QW.iconst (0 : Int32) rfl dX1_findFits_55 ?_
      refine QW.bipush (99 : Int32) rfl dX1_findFits_56 ?_
      refine FW.callVi [.int a2, .int (0 : Int32), .int (99 : Int32)] [.int (h2 24 3), .ref 24] rfl dX1_findFits_58 lmX1_104 sC_20 rfl ⟨Nat.le_of_ble_eq_true rfl, Nat.le_of_ble_eq_true rfl⟩ ⟨rfl, rfl⟩ (Nat.le_of_ble_eq_true rfl) (FI.mono (fun x3 h3 vc => ?_) vc)
      refine QW.iadd dX1_findFits_61 ?_
      refine FW.putI dX1_findFits_62 lfX1_28 sP_24_3 ?_
      refine QW.aload_n dX1_findFits_65 rfl ?_
      refine QW.aload_n dX1_findFits_66 rfl ?_
      refine FW.getI (h3 24 4) dX1_findFits_67 lfX1_66 sI_24_4 rfl ?_
      refine QW.iconst (-1 : Int32) rfl dX1_findFits_70 ?_
      refine QW.icmp_ne 78 dX1_findFits_71 rfl (fun hc => ?_) (fun hc => ?_)
      · replace vc := vc.1 hc
        refine QW.aload_n dX1_findFits_78 rfl ?_
        refine FW.getI (h3 24 4) dX1_findFits_79 lfX1_66 sI_24_4 rfl ?_
        refine FW.putI dX1_findFits_82 lfX1_66 sP_24_4 ?_
        refine QW.iinc (a2 + (1 : Int32)) [some (.ref 24), some (.ref 41), some (.int (a2 + (1 : Int32)))] dX1_findFits_85 rfl rfl (by decide) rfl rfl ?_
        refine QW.goto 19 dX1_findFits_88 rfl ?_
        exact vc
      · replace vc := vc.2 hc
        refine QW.iload_n dX1_findFits_74 rfl ?_
        refine QW.goto 82 dX1_findFits_75 rfl ?_
        refine FW.putI dX1_findFits_82 lfX1_66 sP_24_4 ?_
        refine QW.iinc (a2 + (1 : Int32)) [some (.ref 24), some (.ref 41), some (.int (a2 + (1 : Int32)))] dX1_findFits_85 rfl rfl (by decide) rfl rfl ?_
        refine QW.goto 19 dX1_findFits_88 rfl ?_
        exact vc
theorem vX5_kindOfWord_0 {g : QG} {K : Int32 → Hp → Prop} {h : Hp} (vc : FI g mX5_isWord [.ref 7, .ref (2000 + 4)] h (fun x1 h1 => (x1 = 0 → FI g mX5_isWord [.ref 7, .ref (2000 + 5)] h1 (fun x2 h2 => (x2 = 0 → FI g mX5_isWord [.ref 7, .ref (2000 + 6)] h2 (fun x3 h3 => (x3 = 0 → FI g mX5_isWord [.ref 7, .ref (2000 + 7)] h3 (fun x4 h4 => (x4 = 0 → K (-1 : Int32) h4) ∧ (¬ x4 = 0 → K (3 : Int32) h4))) ∧ (¬ x3 = 0 → K (2 : Int32) h3))) ∧ (¬ x2 = 0 → K (1 : Int32) h2))) ∧ (¬ x1 = 0 → K (0 : Int32) h1))) : FW g mX5_kindOfWord 0 [some (.ref 7)] [] h (q_RI K) := by
  refine QW.aload_n dX5_kindOfWord_0 rfl ?_
  refine QW.ldcS (i := 4) rfl (by decide) rfl dX5_kindOfWord_1 ?_
  refine FW.callVi [.ref (2000 + 4)] [] rfl dX5_kindOfWord_3 lmX5_67 sC_7 rfl ⟨Nat.le_of_ble_eq_true rfl, Nat.le_of_ble_eq_true rfl⟩ ⟨rfl, rfl⟩ (Nat.le_of_ble_eq_true rfl) (FI.mono (fun x1 h1 vc => ?_) vc)
  refine QW.if_eq 11 dX5_kindOfWord_6 rfl (fun hc => ?_) (fun hc => ?_)
  · replace vc := vc.1 hc
    refine QW.aload_n dX5_kindOfWord_11 rfl ?_
    refine QW.ldcS (i := 5) rfl (by decide) rfl dX5_kindOfWord_12 ?_
    refine FW.callVi [.ref (2000 + 5)] [] rfl dX5_kindOfWord_14 lmX5_67 sC_7 rfl ⟨Nat.le_of_ble_eq_true rfl, Nat.le_of_ble_eq_true rfl⟩ ⟨rfl, rfl⟩ (Nat.le_of_ble_eq_true rfl) (FI.mono (fun x2 h2 vc => ?_) vc)
    refine QW.if_eq 22 dX5_kindOfWord_17 rfl (fun hc => ?_) (fun hc => ?_)
    · replace vc := vc.1 hc
      refine QW.aload_n dX5_kindOfWord_22 rfl ?_
      refine QW.ldcS (i := 6) rfl (by decide) rfl dX5_kindOfWord_23 ?_
      refine FW.callVi [.ref (2000 + 6)] [] rfl dX5_kindOfWord_25 lmX5_67 sC_7 rfl ⟨Nat.le_of_ble_eq_true rfl, Nat.le_of_ble_eq_true rfl⟩ ⟨rfl, rfl⟩ (Nat.le_of_ble_eq_true rfl) (FI.mono (fun x3 h3 vc => ?_) vc)
      refine QW.if_eq 33 dX5_kindOfWord_28 rfl (fun hc => ?_) (fun hc => ?_)
      · replace vc := vc.1 hc
        refine QW.aload_n dX5_kindOfWord_33 rfl ?_
        refine QW.ldcS (i := 7) rfl (by decide) rfl dX5_kindOfWord_34 ?_
        refine FW.callVi [.ref (2000 + 7)] [] rfl dX5_kindOfWord_36 lmX5_67 sC_7 rfl ⟨Nat.le_of_ble_eq_true rfl, Nat.le_of_ble_eq_true rfl⟩ ⟨rfl, rfl⟩ (Nat.le_of_ble_eq_true rfl) (FI.mono (fun x4 h4 vc => ?_) vc)
        refine QW.if_eq 46 dX5_kindOfWord_39 rfl (fun hc => ?_) (fun hc => ?_)
        · replace vc := vc.1 hc
          refine QW.iconst (-1 : Int32) rfl dX5_kindOfWord_46 ?_
          exact FW.ret dX5_kindOfWord_47 rfl vc
        · replace vc := vc.2 hc
          refine QW.iconst (3 : Int32) rfl dX5_kindOfWord_42 ?_
          refine QW.goto 47 dX5_kindOfWord_43 rfl ?_
          exact FW.ret dX5_kindOfWord_47 rfl vc
      · replace vc := vc.2 hc
        refine QW.iconst (2 : Int32) rfl dX5_kindOfWord_31 ?_
        exact FW.ret dX5_kindOfWord_32 rfl vc
    · replace vc := vc.2 hc
      refine QW.iconst (1 : Int32) rfl dX5_kindOfWord_20 ?_
      exact FW.ret dX5_kindOfWord_21 rfl vc
  · replace vc := vc.2 hc
    refine QW.iconst (0 : Int32) rfl dX5_kindOfWord_9 ?_
    exact FW.ret dX5_kindOfWord_10 rfl vc
theorem vX8_inn_0 {g : QG} {K : Int32 → Hp → Prop} {h : Hp} (vc : FI g mX8_fault [.ref 44] h (fun x1 h1 => (x1 = (-1 : Int32) → FW g mX8_inn 13 [some (.ref 44), some (.int (0 : Int32))] [] h1 (q_RI K)) ∧ (¬ x1 = (-1 : Int32) → K (-4 : Int32) h1))) : FW g mX8_inn 0 [some (.ref 44), none] [] h (q_RI K) := by
  refine QW.aload_n dX8_inn_0 rfl ?_
  refine FW.callVi [] [] rfl dX8_inn_1 lmX8_160 sC_44 rfl ⟨Nat.le_of_ble_eq_true rfl, Nat.le_of_ble_eq_true rfl⟩ ⟨rfl, rfl⟩ (Nat.le_of_ble_eq_true rfl) (FI.mono (fun x1 h1 vc => ?_) vc)
  refine QW.iconst (-1 : Int32) rfl dX8_inn_4 ?_
  refine QW.icmp_eq 11 dX8_inn_5 rfl (fun hc => ?_) (fun hc => ?_)
  · replace vc := vc.1 hc
    refine QW.iconst (0 : Int32) rfl dX8_inn_11 ?_
    refine QW.istore_n [some (.ref 44), some (.int (0 : Int32))] dX8_inn_12 (by decide) rfl rfl ?_
    exact vc
  · replace vc := vc.2 hc
    refine QW.bipush (-4 : Int32) rfl dX8_inn_8 ?_
    exact FW.ret dX8_inn_10 rfl vc
theorem vX8_inn_13 {g : QG} {K : Int32 → Hp → Prop} {h : Hp} {a1 : Int32} (vc : ((h 44 5) ≤ a1 → FV g mX8_begin [.ref 44] h (fun h1 => K (h1 44 5) (q_up (q_up (q_up (q_up h1 44 30 (0 : Int32)) 46 0 (0 : Int32)) 46 1 (0 : Int32)) 44 3 (0 : Int32)))) ∧ (¬ (h 44 5) ≤ a1 → FV g mX8_tell [.ref 44, .int ((5 : Int32) * a1)] h (fun h2 => FW g mX8_inn 13 [some (.ref 44), some (.int (a1 + (1 : Int32)))] [] h2 (q_RI K)))) : FW g mX8_inn 13 [some (.ref 44), some (.int a1)] [] h (q_RI K) := by
  refine QW.iload_n dX8_inn_13 rfl ?_
  refine QW.aload_n dX8_inn_14 rfl ?_
  refine FW.getI (h 44 5) dX8_inn_15 lfX8_114 sI_44_5 rfl ?_
  refine QW.icmp_ge 34 dX8_inn_18 rfl (fun hc => ?_) (fun hc => ?_)
  · replace vc := vc.1 hc
    refine QW.aload_n dX8_inn_34 rfl ?_
    refine FW.callVv [] [] rfl dX8_inn_35 lmX8_63 sC_44 rfl ⟨Nat.le_of_ble_eq_true rfl, Nat.le_of_ble_eq_true rfl⟩ ⟨rfl, rfl⟩ (Nat.le_of_ble_eq_true rfl) (FV.mono (fun h1 vc => ?_) vc)
    refine QW.aload_n dX8_inn_38 rfl ?_
    refine QW.iconst (0 : Int32) rfl dX8_inn_39 ?_
    refine FW.putI dX8_inn_40 lfX8_167 sP_44_30 ?_
    refine QW.aload_n dX8_inn_43 rfl ?_
    refine FW.getR dX8_inn_44 lfX8_13 sR_44_1 ?_
    refine QW.iconst (0 : Int32) rfl dX8_inn_47 ?_
    refine QW.iconst (0 : Int32) rfl dX8_inn_48 ?_
    refine FW.zast (Or.inl rfl) dX8_inn_49 sZ_46 (by unfold vp_in; decide) ?_
    refine QW.aload_n dX8_inn_50 rfl ?_
    refine FW.getR dX8_inn_51 lfX8_13 sR_44_1 ?_
    refine QW.iconst (1 : Int32) rfl dX8_inn_54 ?_
    refine QW.iconst (0 : Int32) rfl dX8_inn_55 ?_
    refine FW.zast (Or.inl rfl) dX8_inn_56 sZ_46 (by unfold vp_in; decide) ?_
    refine QW.aload_n dX8_inn_57 rfl ?_
    refine QW.iconst (0 : Int32) rfl dX8_inn_58 ?_
    refine FW.putI dX8_inn_59 lfX8_79 sP_44_3 ?_
    refine QW.aload_n dX8_inn_62 rfl ?_
    refine FW.getI (h1 44 5) dX8_inn_63 lfX8_114 sI_44_5 rfl ?_
    exact FW.ret dX8_inn_66 rfl vc
  · replace vc := vc.2 hc
    refine QW.aload_n dX8_inn_21 rfl ?_
    refine QW.iconst (5 : Int32) rfl dX8_inn_22 ?_
    refine QW.iload_n dX8_inn_23 rfl ?_
    refine QW.imul dX8_inn_24 ?_
    refine FW.callVv [.int ((5 : Int32) * a1)] [] rfl dX8_inn_25 lmX8_163 sC_44 rfl ⟨Nat.le_of_ble_eq_true rfl, Nat.le_of_ble_eq_true rfl⟩ ⟨rfl, rfl⟩ (Nat.le_of_ble_eq_true rfl) (FV.mono (fun h2 vc => ?_) vc)
    refine QW.iinc (a1 + (1 : Int32)) [some (.ref 44), some (.int (a1 + (1 : Int32)))] dX8_inn_28 rfl rfl (by decide) rfl rfl ?_
    refine QW.goto 13 dX8_inn_31 rfl ?_
    exact vc
theorem vX8_odds_0 {g : QG} {K : Int32 → Hp → Prop} {h : Hp} {a1 a2 a3 a4 : Int32} (vc : FI g mX8_isGuest [.ref 44, .int a1] h (fun x1 h1 => (¬ x1 = 0 → FI g mX8_isSpan [.int a2, .int a3] h1 (fun x2 h2 => (x2 = 0 → K (-3 : Int32) h2) ∧ (¬ x2 = 0 → FI g mX8_in [.long a4.toInt64, .long (0 : Int64), .long (1 : Int64)] h2 (fun x3 h3 => (¬ x3 = 0 → FI g mX8_minutesOf [.ref 44, .int a1, .int a2, .int a3] h3 (fun x4 h4 => FW g mX8_odds 57 [none, none, none, none, some (.int a4), some (.int x4), some (.int ((a3 - a2) + (1 : Int32))), some (.int x4), some (.int ((a3 - a2) + (1 : Int32))), none] [] h4 (q_RI K))) ∧ (x3 = 0 → K (-3 : Int32) h3))))) ∧ (x1 = 0 → K (-2 : Int32) h1))) : FW g mX8_odds 0 [some (.ref 44), some (.int a1), some (.int a2), some (.int a3), some (.int a4), none, none, none, none, none] [] h (q_RI K) := by
  refine QW.aload_n dX8_odds_0 rfl ?_
  refine QW.iload_n dX8_odds_1 rfl ?_
  refine FW.callVi [.int a1] [] rfl dX8_odds_2 lmX8_173 sC_44 rfl ⟨Nat.le_of_ble_eq_true rfl, Nat.le_of_ble_eq_true rfl⟩ ⟨rfl, rfl⟩ (Nat.le_of_ble_eq_true rfl) (FI.mono (fun x1 h1 vc => ?_) vc)
  refine QW.if_ne 11 dX8_odds_5 rfl (fun hc => ?_) (fun hc => ?_)
  · replace vc := vc.1 hc
    refine QW.iload_n dX8_odds_11 rfl ?_
    refine QW.iload_n dX8_odds_12 rfl ?_
    refine FW.callSi [.int a2, .int a3] [] rfl dX8_odds_13 lmX8_235 rfl ⟨Nat.le_of_ble_eq_true rfl, Nat.le_of_ble_eq_true rfl⟩ ⟨rfl, rfl⟩ (Nat.le_of_ble_eq_true rfl) (FI.mono (fun x2 h2 vc => ?_) vc)
    refine QW.if_eq 30 dX8_odds_16 rfl (fun hc => ?_) (fun hc => ?_)
    · replace vc := vc.1 hc
      refine QW.bipush (-3 : Int32) rfl dX8_odds_30 ?_
      exact FW.ret dX8_odds_32 rfl vc
    · replace vc := vc.2 hc
      refine QW.iload dX8_odds_19 rfl ?_
      refine QW.i2l dX8_odds_21 ?_
      refine QW.lconst (0 : Int64) rfl dX8_odds_22 ?_
      refine QW.lconst (1 : Int64) rfl dX8_odds_23 ?_
      refine FW.callSi [.long a4.toInt64, .long (0 : Int64), .long (1 : Int64)] [] rfl dX8_odds_24 lmX8_70 rfl ⟨Nat.le_of_ble_eq_true rfl, Nat.le_of_ble_eq_true rfl⟩ ⟨rfl, rfl⟩ (Nat.le_of_ble_eq_true rfl) (FI.mono (fun x3 h3 vc => ?_) vc)
      refine QW.if_ne 33 dX8_odds_27 rfl (fun hc => ?_) (fun hc => ?_)
      · replace vc := vc.1 hc
        refine QW.aload_n dX8_odds_33 rfl ?_
        refine QW.iload_n dX8_odds_34 rfl ?_
        refine QW.iload_n dX8_odds_35 rfl ?_
        refine QW.iload_n dX8_odds_36 rfl ?_
        refine FW.callVi [.int a1, .int a2, .int a3] [] rfl dX8_odds_37 lmX8_238 sC_44 rfl ⟨Nat.le_of_ble_eq_true rfl, Nat.le_of_ble_eq_true rfl⟩ ⟨rfl, rfl⟩ (Nat.le_of_ble_eq_true rfl) (FI.mono (fun x4 h4 vc => ?_) vc)
        refine QW.istore [some (.ref 44), some (.int a1), some (.int a2), some (.int a3), some (.int a4), some (.int x4), none, none, none, none] dX8_odds_40 (by decide) rfl rfl ?_
        refine QW.iload_n dX8_odds_42 rfl ?_
        refine QW.iload_n dX8_odds_43 rfl ?_
        refine QW.isub dX8_odds_44 ?_
        refine QW.iconst (1 : Int32) rfl dX8_odds_45 ?_
        refine QW.iadd dX8_odds_46 ?_
        refine QW.istore [some (.ref 44), some (.int a1), some (.int a2), some (.int a3), some (.int a4), some (.int x4), some (.int ((a3 - a2) + (1 : Int32))), none, none, none] dX8_odds_47 (by decide) rfl rfl ?_
        refine QW.iload dX8_odds_49 rfl ?_
        refine QW.istore [some (.ref 44), some (.int a1), some (.int a2), some (.int a3), some (.int a4), some (.int x4), some (.int ((a3 - a2) + (1 : Int32))), some (.int x4), none, none] dX8_odds_51 (by decide) rfl rfl ?_
        refine QW.iload dX8_odds_53 rfl ?_
        refine QW.istore [some (.ref 44), some (.int a1), some (.int a2), some (.int a3), some (.int a4), some (.int x4), some (.int ((a3 - a2) + (1 : Int32))), some (.int x4), some (.int ((a3 - a2) + (1 : Int32))), none] dX8_odds_55 (by decide) rfl rfl ?_
        exact QW.sub (by exact ⟨rfl, ⟨rfl, ⟨rfl, ⟨rfl, ⟨rfl, trivial⟩⟩⟩⟩⟩) vc
      · replace vc := vc.2 hc
        refine QW.bipush (-3 : Int32) rfl dX8_odds_30 ?_
        exact FW.ret dX8_odds_32 rfl vc
  · replace vc := vc.2 hc
    refine QW.bipush (-2 : Int32) rfl dX8_odds_8 ?_
    exact FW.ret dX8_odds_10 rfl vc
theorem vX8_odds_57 {g : QG} {K : Int32 → Hp → Prop} {h : Hp} {a4 a5 a6 a7 a8 : Int32} (vc : (a8 = 0 → (¬ a4 = 0 → (¬ a7 = 0) ∧ K (a6 / a7) h) ∧ (a4 = 0 → (¬ a7 = 0) ∧ K (a5 / a7) h)) ∧ (¬ a8 = 0 → (¬ a8 = 0) ∧ FW g mX8_odds 57 [none, none, none, none, some (.int a4), some (.int a5), some (.int a6), some (.int a8), some (.int (a7 - a7 / a8 * a8)), none] [] h (q_RI K))) : FW g mX8_odds 57 [none, none, none, none, some (.int a4), some (.int a5), some (.int a6), some (.int a7), some (.int a8), none] [] h (q_RI K) := by
  refine QW.iload dX8_odds_57 rfl ?_
  refine QW.if_eq 80 dX8_odds_59 rfl (fun hc => ?_) (fun hc => ?_)
  · replace vc := vc.1 hc
    refine QW.iload dX8_odds_80 rfl ?_
    refine QW.if_ne 93 dX8_odds_82 rfl (fun hc => ?_) (fun hc => ?_)
    · replace vc := vc.1 hc
      refine QW.iload dX8_odds_93 rfl ?_
      refine QW.iload dX8_odds_95 rfl ?_
      refine QW.idiv vc.1 dX8_odds_97 ?_
      replace vc := vc.2
      exact FW.ret dX8_odds_98 rfl vc
    · replace vc := vc.2 hc
      refine QW.iload dX8_odds_85 rfl ?_
      refine QW.iload dX8_odds_87 rfl ?_
      refine QW.idiv vc.1 dX8_odds_89 ?_
      replace vc := vc.2
      refine QW.goto 98 dX8_odds_90 rfl ?_
      exact FW.ret dX8_odds_98 rfl vc
  · replace vc := vc.2 hc
    refine QW.iload dX8_odds_62 rfl ?_
    refine QW.iload dX8_odds_64 rfl ?_
    refine QW.irem vc.1 dX8_odds_66 ?_
    replace vc := vc.2
    refine QW.istore [none, none, none, none, some (.int a4), some (.int a5), some (.int a6), some (.int a7), some (.int a8), some (.int (a7 - a7 / a8 * a8))] dX8_odds_67 (by decide) rfl rfl ?_
    refine QW.iload dX8_odds_69 rfl ?_
    refine QW.istore [none, none, none, none, some (.int a4), some (.int a5), some (.int a6), some (.int a8), some (.int a8), some (.int (a7 - a7 / a8 * a8))] dX8_odds_71 (by decide) rfl rfl ?_
    refine QW.iload dX8_odds_73 rfl ?_
    refine QW.istore [none, none, none, none, some (.int a4), some (.int a5), some (.int a6), some (.int a8), some (.int (a7 - a7 / a8 * a8)), some (.int (a7 - a7 / a8 * a8))] dX8_odds_75 (by decide) rfl rfl ?_
    refine QW.goto 57 dX8_odds_77 rfl ?_
    exact QW.sub (by exact ⟨rfl, ⟨rfl, ⟨rfl, ⟨rfl, ⟨rfl, trivial⟩⟩⟩⟩⟩) vc
theorem vX7_surest_0 {g : QG} {K : Int32 → Hp → Prop} {h : Hp} {a1 a2 a3 a4 : Int32} (vc : FI g mX6_hasGuest [.ref 1, .int a1] h (fun x1 h1 => (¬ x1 = 0 → FI g mX7_areMinutes [.int a2, .int a3] h1 (fun x2 h2 => (x2 = 0 → K (-3 : Int32) h2) ∧ (¬ x2 = 0 → (a4 < 0 → K (-3 : Int32) h2) ∧ (¬ a4 < 0 → (a4 ≤ (2 : Int32) → FV g mX1_findSurest [.ref 24, .int a1, .int a2, .int a3] h2 (fun h3 => (¬ a4 = 0 → (¬ a4 = (1 : Int32) → K (h3 24 3) h3) ∧ (a4 = (1 : Int32) → K (h3 24 6) h3)) ∧ (a4 = 0 → K (h3 24 5) h3))) ∧ (¬ a4 ≤ (2 : Int32) → K (-3 : Int32) h2))))) ∧ (x1 = 0 → K (-2 : Int32) h1))) : FW g mX7_surest 0 [some (.ref 0), some (.int a1), some (.int a2), some (.int a3), some (.int a4)] [] h (q_RI K) := by
  refine QW.aload_n dX7_surest_0 rfl ?_
  refine FW.getR dX7_surest_1 lfX7_10 sR_0_0 ?_
  refine QW.iload_n dX7_surest_4 rfl ?_
  refine FW.callVi [.int a1] [] rfl dX7_surest_5 lmX7_121 sC_1 rfl ⟨Nat.le_of_ble_eq_true rfl, Nat.le_of_ble_eq_true rfl⟩ ⟨rfl, rfl⟩ (Nat.le_of_ble_eq_true rfl) (FI.mono (fun x1 h1 vc => ?_) vc)
  refine QW.if_ne 14 dX7_surest_8 rfl (fun hc => ?_) (fun hc => ?_)
  · replace vc := vc.1 hc
    refine QW.iload_n dX7_surest_14 rfl ?_
    refine QW.iload_n dX7_surest_15 rfl ?_
    refine FW.callSi [.int a2, .int a3] [] rfl dX7_surest_16 lmX7_208 rfl ⟨Nat.le_of_ble_eq_true rfl, Nat.le_of_ble_eq_true rfl⟩ ⟨rfl, rfl⟩ (Nat.le_of_ble_eq_true rfl) (FI.mono (fun x2 h2 vc => ?_) vc)
    refine QW.if_eq 33 dX7_surest_19 rfl (fun hc => ?_) (fun hc => ?_)
    · replace vc := vc.1 hc
      refine QW.bipush (-3 : Int32) rfl dX7_surest_33 ?_
      exact FW.ret dX7_surest_35 rfl vc
    · replace vc := vc.2 hc
      refine QW.iload dX7_surest_22 rfl ?_
      refine QW.if_lt 33 dX7_surest_24 rfl (fun hc => ?_) (fun hc => ?_)
      · replace vc := vc.1 hc
        refine QW.bipush (-3 : Int32) rfl dX7_surest_33 ?_
        exact FW.ret dX7_surest_35 rfl vc
      · replace vc := vc.2 hc
        refine QW.iload dX7_surest_27 rfl ?_
        refine QW.iconst (2 : Int32) rfl dX7_surest_29 ?_
        refine QW.icmp_le 36 dX7_surest_30 rfl (fun hc => ?_) (fun hc => ?_)
        · replace vc := vc.1 hc
          refine QW.aload_n dX7_surest_36 rfl ?_
          refine FW.getR dX7_surest_37 lfX7_46 sR_0_4 ?_
          refine QW.iload_n dX7_surest_40 rfl ?_
          refine QW.iload_n dX7_surest_41 rfl ?_
          refine QW.iload_n dX7_surest_42 rfl ?_
          refine FW.callVv [.int a1, .int a2, .int a3] [] rfl dX7_surest_43 lmX7_221 sC_24 rfl ⟨Nat.le_of_ble_eq_true rfl, Nat.le_of_ble_eq_true rfl⟩ ⟨rfl, rfl⟩ (Nat.le_of_ble_eq_true rfl) (FV.mono (fun h3 vc => ?_) vc)
          refine QW.iload dX7_surest_46 rfl ?_
          refine QW.if_ne 59 dX7_surest_48 rfl (fun hc => ?_) (fun hc => ?_)
          · replace vc := vc.1 hc
            refine QW.iload dX7_surest_59 rfl ?_
            refine QW.iconst (1 : Int32) rfl dX7_surest_61 ?_
            refine QW.icmp_ne 75 dX7_surest_62 rfl (fun hc => ?_) (fun hc => ?_)
            · replace vc := vc.1 hc
              refine QW.aload_n dX7_surest_75 rfl ?_
              refine FW.getR dX7_surest_76 lfX7_46 sR_0_4 ?_
              refine FW.getI (h3 24 3) dX7_surest_79 lfX7_231 sI_24_3 rfl ?_
              exact FW.ret dX7_surest_82 rfl vc
            · replace vc := vc.2 hc
              refine QW.aload_n dX7_surest_65 rfl ?_
              refine FW.getR dX7_surest_66 lfX7_46 sR_0_4 ?_
              refine FW.getI (h3 24 6) dX7_surest_69 lfX7_228 sI_24_6 rfl ?_
              refine QW.goto 82 dX7_surest_72 rfl ?_
              exact FW.ret dX7_surest_82 rfl vc
          · replace vc := vc.2 hc
            refine QW.aload_n dX7_surest_51 rfl ?_
            refine FW.getR dX7_surest_52 lfX7_46 sR_0_4 ?_
            refine FW.getI (h3 24 5) dX7_surest_55 lfX7_225 sI_24_5 rfl ?_
            exact FW.ret dX7_surest_58 rfl vc
        · replace vc := vc.2 hc
          refine QW.bipush (-3 : Int32) rfl dX7_surest_33 ?_
          exact FW.ret dX7_surest_35 rfl vc
  · replace vc := vc.2 hc
    refine QW.bipush (-2 : Int32) rfl dX7_surest_11 ?_
    exact FW.ret dX7_surest_13 rfl vc
theorem vX8_surest_0 {g : QG} {K : Int32 → Hp → Prop} {h : Hp} {a1 a2 a3 a4 : Int32} (vc : FI g mX8_isGuest [.ref 44, .int a1] h (fun x1 h1 => (¬ x1 = 0 → FI g mX8_isSpan [.int a2, .int a3] h1 (fun x2 h2 => (x2 = 0 → K (-3 : Int32) h2) ∧ (¬ x2 = 0 → FI g mX8_in [.long a4.toInt64, .long (0 : Int64), .long (2 : Int64)] h2 (fun x3 h3 => (¬ x3 = 0 → vp_in a1 6 ∧ vp_in a1 6 ∧ FW g mX8_surest 62 [some (.ref 44), some (.int a1), some (.int a2), some (.int a3), some (.int a4), some (.int (h3 51 a1.toNatClampNeg)), some (.int (h3 52 a1.toNatClampNeg)), some (.int (-1 : Int32)), some (.int (999 : Int32)), some (.int (0 : Int32)), none] [] h3 (q_RI K)) ∧ (x3 = 0 → K (-3 : Int32) h3))))) ∧ (x1 = 0 → K (-2 : Int32) h1))) : FW g mX8_surest 0 [some (.ref 44), some (.int a1), some (.int a2), some (.int a3), some (.int a4), none, none, none, none, none, none] [] h (q_RI K) := by
  refine QW.aload_n dX8_surest_0 rfl ?_
  refine QW.iload_n dX8_surest_1 rfl ?_
  refine FW.callVi [.int a1] [] rfl dX8_surest_2 lmX8_173 sC_44 rfl ⟨Nat.le_of_ble_eq_true rfl, Nat.le_of_ble_eq_true rfl⟩ ⟨rfl, rfl⟩ (Nat.le_of_ble_eq_true rfl) (FI.mono (fun x1 h1 vc => ?_) vc)
  refine QW.if_ne 11 dX8_surest_5 rfl (fun hc => ?_) (fun hc => ?_)
  · replace vc := vc.1 hc
    refine QW.iload_n dX8_surest_11 rfl ?_
    refine QW.iload_n dX8_surest_12 rfl ?_
    refine FW.callSi [.int a2, .int a3] [] rfl dX8_surest_13 lmX8_235 rfl ⟨Nat.le_of_ble_eq_true rfl, Nat.le_of_ble_eq_true rfl⟩ ⟨rfl, rfl⟩ (Nat.le_of_ble_eq_true rfl) (FI.mono (fun x2 h2 vc => ?_) vc)
    refine QW.if_eq 32 dX8_surest_16 rfl (fun hc => ?_) (fun hc => ?_)
    · replace vc := vc.1 hc
      refine QW.bipush (-3 : Int32) rfl dX8_surest_32 ?_
      exact FW.ret dX8_surest_34 rfl vc
    · replace vc := vc.2 hc
      refine QW.iload dX8_surest_19 rfl ?_
      refine QW.i2l dX8_surest_21 ?_
      refine QW.lconst (0 : Int64) rfl dX8_surest_22 ?_
      refine QW.ldc2 dX8_surest_23 lkX8_241 ?_
      refine FW.callSi [.long a4.toInt64, .long (0 : Int64), .long (2 : Int64)] [] rfl dX8_surest_26 lmX8_70 rfl ⟨Nat.le_of_ble_eq_true rfl, Nat.le_of_ble_eq_true rfl⟩ ⟨rfl, rfl⟩ (Nat.le_of_ble_eq_true rfl) (FI.mono (fun x3 h3 vc => ?_) vc)
      refine QW.if_ne 35 dX8_surest_29 rfl (fun hc => ?_) (fun hc => ?_)
      · replace vc := vc.1 hc
        refine QW.aload_n dX8_surest_35 rfl ?_
        refine FW.getR dX8_surest_36 lfX8_33 sR_44_10 ?_
        refine QW.iload_n dX8_surest_39 rfl ?_
        refine FW.iald (h3 51 a1.toNatClampNeg) dX8_surest_40 sA_51 vc.1 rfl ?_
        replace vc := vc.2
        refine QW.istore [some (.ref 44), some (.int a1), some (.int a2), some (.int a3), some (.int a4), some (.int (h3 51 a1.toNatClampNeg)), none, none, none, none, none] dX8_surest_41 (by decide) rfl rfl ?_
        refine QW.aload_n dX8_surest_43 rfl ?_
        refine FW.getR dX8_surest_44 lfX8_36 sR_44_11 ?_
        refine QW.iload_n dX8_surest_47 rfl ?_
        refine FW.iald (h3 52 a1.toNatClampNeg) dX8_surest_48 sA_52 vc.1 rfl ?_
        replace vc := vc.2
        refine QW.istore [some (.ref 44), some (.int a1), some (.int a2), some (.int a3), some (.int a4), some (.int (h3 51 a1.toNatClampNeg)), some (.int (h3 52 a1.toNatClampNeg)), none, none, none, none] dX8_surest_49 (by decide) rfl rfl ?_
        refine QW.iconst (-1 : Int32) rfl dX8_surest_51 ?_
        refine QW.istore [some (.ref 44), some (.int a1), some (.int a2), some (.int a3), some (.int a4), some (.int (h3 51 a1.toNatClampNeg)), some (.int (h3 52 a1.toNatClampNeg)), some (.int (-1 : Int32)), none, none, none] dX8_surest_52 (by decide) rfl rfl ?_
        refine QW.sipush (999 : Int32) rfl dX8_surest_54 ?_
        refine QW.istore [some (.ref 44), some (.int a1), some (.int a2), some (.int a3), some (.int a4), some (.int (h3 51 a1.toNatClampNeg)), some (.int (h3 52 a1.toNatClampNeg)), some (.int (-1 : Int32)), some (.int (999 : Int32)), none, none] dX8_surest_57 (by decide) rfl rfl ?_
        refine QW.iconst (0 : Int32) rfl dX8_surest_59 ?_
        refine QW.istore [some (.ref 44), some (.int a1), some (.int a2), some (.int a3), some (.int a4), some (.int (h3 51 a1.toNatClampNeg)), some (.int (h3 52 a1.toNatClampNeg)), some (.int (-1 : Int32)), some (.int (999 : Int32)), some (.int (0 : Int32)), none] dX8_surest_60 (by decide) rfl rfl ?_
        exact vc
      · replace vc := vc.2 hc
        refine QW.bipush (-3 : Int32) rfl dX8_surest_32 ?_
        exact FW.ret dX8_surest_34 rfl vc
  · replace vc := vc.2 hc
    refine QW.bipush (-2 : Int32) rfl dX8_surest_8 ?_
    exact FW.ret dX8_surest_10 rfl vc
theorem vX8_surest_62 {g : QG} {K : Int32 → Hp → Prop} {h : Hp} {a1 a2 a3 a4 a5 a6 a7 a8 a9 : Int32} (vc : ((8 : Int32) ≤ a9 → vp_in a1 6 ∧ vp_in a1 6 ∧ (¬ a4 = 0 → (¬ a4 = (1 : Int32) → K a8 (q_up (q_up h 51 a1.toNatClampNeg a5) 52 a1.toNatClampNeg a6)) ∧ (a4 = (1 : Int32) → K (a7 - a7 / (2 : Int32) * (2 : Int32)) (q_up (q_up h 51 a1.toNatClampNeg a5) 52 a1.toNatClampNeg a6))) ∧ (a4 = 0 → K (a7 / (2 : Int32)) (q_up (q_up h 51 a1.toNatClampNeg a5) 52 a1.toNatClampNeg a6))) ∧ (¬ (8 : Int32) ≤ a9 → vp_in a1 6 ∧ vp_in a1 6 ∧ FI g mX8_minutesOf [.ref 44, .int a1, .int a2, .int a3] (q_up (q_up h 51 a1.toNatClampNeg (a9 / (2 : Int32))) 52 a1.toNatClampNeg (a9 - a9 / (2 : Int32) * (2 : Int32))) (fun x1 h1 => (a8 ≤ x1 → FW g mX8_surest 112 [some (.ref 44), some (.int a1), some (.int a2), some (.int a3), some (.int a4), some (.int a5), some (.int a6), none, some (.int a8), some (.int a9), some (.int x1)] [.int a7] h1 (q_RI K)) ∧ (¬ a8 ≤ x1 → FW g mX8_surest 112 [some (.ref 44), some (.int a1), some (.int a2), some (.int a3), some (.int a4), some (.int a5), some (.int a6), none, some (.int a8), some (.int a9), some (.int x1)] [.int a9] h1 (q_RI K))))) : FW g mX8_surest 62 [some (.ref 44), some (.int a1), some (.int a2), some (.int a3), some (.int a4), some (.int a5), some (.int a6), some (.int a7), some (.int a8), some (.int a9), none] [] h (q_RI K) := by
  refine QW.iload dX8_surest_62 rfl ?_
  refine QW.bipush (8 : Int32) rfl dX8_surest_64 ?_
  refine QW.icmp_ge 136 dX8_surest_66 rfl (fun hc => ?_) (fun hc => ?_)
  · replace vc := vc.1 hc
    refine QW.aload_n dX8_surest_136 rfl ?_
    refine FW.getR dX8_surest_137 lfX8_33 sR_44_10 ?_
    refine QW.iload_n dX8_surest_140 rfl ?_
    refine QW.iload dX8_surest_141 rfl ?_
    refine FW.iast dX8_surest_143 sA_51 vc.1 ?_
    replace vc := vc.2
    refine QW.aload_n dX8_surest_144 rfl ?_
    refine FW.getR dX8_surest_145 lfX8_36 sR_44_11 ?_
    refine QW.iload_n dX8_surest_148 rfl ?_
    refine QW.iload dX8_surest_149 rfl ?_
    refine FW.iast dX8_surest_151 sA_52 vc.1 ?_
    replace vc := vc.2
    refine QW.iload dX8_surest_152 rfl ?_
    refine QW.if_ne 164 dX8_surest_154 rfl (fun hc => ?_) (fun hc => ?_)
    · replace vc := vc.1 hc
      refine QW.iload dX8_surest_164 rfl ?_
      refine QW.iconst (1 : Int32) rfl dX8_surest_166 ?_
      refine QW.icmp_ne 177 dX8_surest_167 rfl (fun hc => ?_) (fun hc => ?_)
      · replace vc := vc.1 hc
        refine QW.iload dX8_surest_177 rfl ?_
        exact FW.ret dX8_surest_179 rfl vc
      · replace vc := vc.2 hc
        refine QW.iload dX8_surest_170 rfl ?_
        refine QW.iconst (2 : Int32) rfl dX8_surest_172 ?_
        refine QW.irem (by decide) dX8_surest_173 ?_
        refine QW.goto 179 dX8_surest_174 rfl ?_
        exact FW.ret dX8_surest_179 rfl vc
    · replace vc := vc.2 hc
      refine QW.iload dX8_surest_157 rfl ?_
      refine QW.iconst (2 : Int32) rfl dX8_surest_159 ?_
      refine QW.idiv (by decide) dX8_surest_160 ?_
      refine QW.goto 179 dX8_surest_161 rfl ?_
      exact FW.ret dX8_surest_179 rfl vc
  · replace vc := vc.2 hc
    refine QW.aload_n dX8_surest_69 rfl ?_
    refine FW.getR dX8_surest_70 lfX8_33 sR_44_10 ?_
    refine QW.iload_n dX8_surest_73 rfl ?_
    refine QW.iload dX8_surest_74 rfl ?_
    refine QW.iconst (2 : Int32) rfl dX8_surest_76 ?_
    refine QW.idiv (by decide) dX8_surest_77 ?_
    refine FW.iast dX8_surest_78 sA_51 vc.1 ?_
    replace vc := vc.2
    refine QW.aload_n dX8_surest_79 rfl ?_
    refine FW.getR dX8_surest_80 lfX8_36 sR_44_11 ?_
    refine QW.iload_n dX8_surest_83 rfl ?_
    refine QW.iload dX8_surest_84 rfl ?_
    refine QW.iconst (2 : Int32) rfl dX8_surest_86 ?_
    refine QW.irem (by decide) dX8_surest_87 ?_
    refine FW.iast dX8_surest_88 sA_52 vc.1 ?_
    replace vc := vc.2
    refine QW.aload_n dX8_surest_89 rfl ?_
    refine QW.iload_n dX8_surest_90 rfl ?_
    refine QW.iload_n dX8_surest_91 rfl ?_
    refine QW.iload_n dX8_surest_92 rfl ?_
    refine FW.callVi [.int a1, .int a2, .int a3] [] rfl dX8_surest_93 lmX8_238 sC_44 rfl ⟨Nat.le_of_ble_eq_true rfl, Nat.le_of_ble_eq_true rfl⟩ ⟨rfl, rfl⟩ (Nat.le_of_ble_eq_true rfl) (FI.mono (fun x1 h1 vc => ?_) vc)
    refine QW.istore [some (.ref 44), some (.int a1), some (.int a2), some (.int a3), some (.int a4), some (.int a5), some (.int a6), some (.int a7), some (.int a8), some (.int a9), some (.int x1)] dX8_surest_96 (by decide) rfl rfl ?_
    refine QW.iload dX8_surest_98 rfl ?_
    refine QW.iload dX8_surest_100 rfl ?_
    refine QW.icmp_ge 110 dX8_surest_102 rfl (fun hc => ?_) (fun hc => ?_)
    · replace vc := vc.1 hc
      refine QW.iload dX8_surest_110 rfl ?_
      exact QW.sub (by exact ⟨rfl, ⟨rfl, ⟨rfl, ⟨rfl, ⟨rfl, ⟨rfl, ⟨rfl, ⟨rfl, ⟨rfl, ⟨rfl, trivial⟩⟩⟩⟩⟩⟩⟩⟩⟩⟩) vc
    · replace vc := vc.2 hc
      refine QW.iload dX8_surest_105 rfl ?_
      refine QW.goto 112 dX8_surest_107 rfl ?_
      exact QW.sub (by exact ⟨rfl, ⟨rfl, ⟨rfl, ⟨rfl, ⟨rfl, ⟨rfl, ⟨rfl, ⟨rfl, ⟨rfl, ⟨rfl, trivial⟩⟩⟩⟩⟩⟩⟩⟩⟩⟩) vc
theorem vX8_surest_112 {g : QG} {K : Int32 → Hp → Prop} {h : Hp} {a1 a2 a3 a4 a5 a6 a8 a9 a10 s0 : Int32} (vc : (a8 ≤ a10 → FW g mX8_surest 62 [some (.ref 44), some (.int a1), some (.int a2), some (.int a3), some (.int a4), some (.int a5), some (.int a6), some (.int s0), some (.int a8), some (.int (a9 + (1 : Int32))), none] [] h (q_RI K)) ∧ (¬ a8 ≤ a10 → FW g mX8_surest 62 [some (.ref 44), some (.int a1), some (.int a2), some (.int a3), some (.int a4), some (.int a5), some (.int a6), some (.int s0), some (.int a10), some (.int (a9 + (1 : Int32))), none] [] h (q_RI K))) : FW g mX8_surest 112 [some (.ref 44), some (.int a1), some (.int a2), some (.int a3), some (.int a4), some (.int a5), some (.int a6), none, some (.int a8), some (.int a9), some (.int a10)] [.int s0] h (q_RI K) := by
  refine QW.istore [some (.ref 44), some (.int a1), some (.int a2), some (.int a3), some (.int a4), some (.int a5), some (.int a6), some (.int s0), some (.int a8), some (.int a9), some (.int a10)] dX8_surest_112 (by decide) rfl rfl ?_
  refine QW.iload dX8_surest_114 rfl ?_
  refine QW.iload dX8_surest_116 rfl ?_
  refine QW.icmp_ge 126 dX8_surest_118 rfl (fun hc => ?_) (fun hc => ?_)
  · replace vc := vc.1 hc
    refine QW.iload dX8_surest_126 rfl ?_
    refine QW.istore [some (.ref 44), some (.int a1), some (.int a2), some (.int a3), some (.int a4), some (.int a5), some (.int a6), some (.int s0), some (.int a8), some (.int a9), some (.int a10)] dX8_surest_128 (by decide) rfl rfl ?_
    refine QW.iinc (a9 + (1 : Int32)) [some (.ref 44), some (.int a1), some (.int a2), some (.int a3), some (.int a4), some (.int a5), some (.int a6), some (.int s0), some (.int a8), some (.int (a9 + (1 : Int32))), some (.int a10)] dX8_surest_130 rfl rfl (by decide) rfl rfl ?_
    refine QW.goto 62 dX8_surest_133 rfl ?_
    exact QW.sub (by exact ⟨rfl, ⟨rfl, ⟨rfl, ⟨rfl, ⟨rfl, ⟨rfl, ⟨rfl, ⟨rfl, ⟨rfl, ⟨rfl, trivial⟩⟩⟩⟩⟩⟩⟩⟩⟩⟩) vc
  · replace vc := vc.2 hc
    refine QW.iload dX8_surest_121 rfl ?_
    refine QW.goto 128 dX8_surest_123 rfl ?_
    refine QW.istore [some (.ref 44), some (.int a1), some (.int a2), some (.int a3), some (.int a4), some (.int a5), some (.int a6), some (.int s0), some (.int a10), some (.int a9), some (.int a10)] dX8_surest_128 (by decide) rfl rfl ?_
    refine QW.iinc (a9 + (1 : Int32)) [some (.ref 44), some (.int a1), some (.int a2), some (.int a3), some (.int a4), some (.int a5), some (.int a6), some (.int s0), some (.int a10), some (.int (a9 + (1 : Int32))), some (.int a10)] dX8_surest_130 rfl rfl (by decide) rfl rfl ?_
    refine QW.goto 62 dX8_surest_133 rfl ?_
    exact QW.sub (by exact ⟨rfl, ⟨rfl, ⟨rfl, ⟨rfl, ⟨rfl, ⟨rfl, ⟨rfl, ⟨rfl, ⟨rfl, ⟨rfl, trivial⟩⟩⟩⟩⟩⟩⟩⟩⟩⟩) vc
theorem vX7_still_0 {g : QG} {K : Int32 → Hp → Prop} {h : Hp} {a1 a2 a3 : Int32} (vc : FI g mX7_areMinutes [.int a1, .int a2] h (fun x1 h1 => (x1 = 0 → K (-3 : Int32) h1) ∧ (¬ x1 = 0 → FI g mX7_isEither [.int a3] h1 (fun x2 h2 => (¬ x2 = 0 → FV g mX1_findStill [.ref 24, .int a1, .int a2] h2 (fun h3 => (¬ a3 = 0 → K (h3 24 4) h3) ∧ (a3 = 0 → K (h3 24 3) h3))) ∧ (x2 = 0 → K (-3 : Int32) h2))))) : FW g mX7_still 0 [some (.ref 0), some (.int a1), some (.int a2), some (.int a3)] [] h (q_RI K) := by
  refine QW.iload_n dX7_still_0 rfl ?_
  refine QW.iload_n dX7_still_1 rfl ?_
  refine FW.callSi [.int a1, .int a2] [] rfl dX7_still_2 lmX7_208 rfl ⟨Nat.le_of_ble_eq_true rfl, Nat.le_of_ble_eq_true rfl⟩ ⟨rfl, rfl⟩ (Nat.le_of_ble_eq_true rfl) (FI.mono (fun x1 h1 vc => ?_) vc)
  refine QW.if_eq 15 dX7_still_5 rfl (fun hc => ?_) (fun hc => ?_)
  · replace vc := vc.1 hc
    refine QW.bipush (-3 : Int32) rfl dX7_still_15 ?_
    exact FW.ret dX7_still_17 rfl vc
  · replace vc := vc.2 hc
    refine QW.iload_n dX7_still_8 rfl ?_
    refine FW.callSi [.int a3] [] rfl dX7_still_9 lmX7_193 rfl ⟨Nat.le_of_ble_eq_true rfl, Nat.le_of_ble_eq_true rfl⟩ ⟨rfl, rfl⟩ (Nat.le_of_ble_eq_true rfl) (FI.mono (fun x2 h2 vc => ?_) vc)
    refine QW.if_ne 18 dX7_still_12 rfl (fun hc => ?_) (fun hc => ?_)
    · replace vc := vc.1 hc
      refine QW.aload_n dX7_still_18 rfl ?_
      refine FW.getR dX7_still_19 lfX7_46 sR_0_4 ?_
      refine QW.iload_n dX7_still_22 rfl ?_
      refine QW.iload_n dX7_still_23 rfl ?_
      refine FW.callVv [.int a1, .int a2] [] rfl dX7_still_24 lmX7_234 sC_24 rfl ⟨Nat.le_of_ble_eq_true rfl, Nat.le_of_ble_eq_true rfl⟩ ⟨rfl, rfl⟩ (Nat.le_of_ble_eq_true rfl) (FV.mono (fun h3 vc => ?_) vc)
      refine QW.iload_n dX7_still_27 rfl ?_
      refine QW.if_ne 41 dX7_still_28 rfl (fun hc => ?_) (fun hc => ?_)
      · replace vc := vc.1 hc
        refine QW.aload_n dX7_still_41 rfl ?_
        refine FW.getR dX7_still_42 lfX7_46 sR_0_4 ?_
        refine FW.getI (h3 24 4) dX7_still_45 lfX7_237 sI_24_4 rfl ?_
        exact FW.ret dX7_still_48 rfl vc
      · replace vc := vc.2 hc
        refine QW.aload_n dX7_still_31 rfl ?_
        refine FW.getR dX7_still_32 lfX7_46 sR_0_4 ?_
        refine FW.getI (h3 24 3) dX7_still_35 lfX7_231 sI_24_3 rfl ?_
        refine QW.goto 48 dX7_still_38 rfl ?_
        exact FW.ret dX7_still_48 rfl vc
    · replace vc := vc.2 hc
      refine QW.bipush (-3 : Int32) rfl dX7_still_15 ?_
      exact FW.ret dX7_still_17 rfl vc
theorem vX8_still_0 {g : QG} {K : Int32 → Hp → Prop} {h : Hp} {a1 a2 a3 : Int32} (vc : FI g mX8_isSpan [.int a1, .int a2] h (fun x1 h1 => (x1 = 0 → K (-3 : Int32) h1) ∧ (¬ x1 = 0 → FI g mX8_in [.long a3.toInt64, .long (0 : Int64), .long (1 : Int64)] h1 (fun x2 h2 => (¬ x2 = 0 → FV g mX8_savePaces [.ref 44] h2 (fun h3 => FW g mX8_still 28 [some (.ref 44), some (.int a1), some (.int a2), some (.int a3), some (.int (0 : Int32)), none, none] [] h3 (q_RI K))) ∧ (x2 = 0 → K (-3 : Int32) h2))))) : FW g mX8_still 0 [some (.ref 44), some (.int a1), some (.int a2), some (.int a3), none, none, none] [] h (q_RI K) := by
  refine QW.iload_n dX8_still_0 rfl ?_
  refine QW.iload_n dX8_still_1 rfl ?_
  refine FW.callSi [.int a1, .int a2] [] rfl dX8_still_2 lmX8_235 rfl ⟨Nat.le_of_ble_eq_true rfl, Nat.le_of_ble_eq_true rfl⟩ ⟨rfl, rfl⟩ (Nat.le_of_ble_eq_true rfl) (FI.mono (fun x1 h1 vc => ?_) vc)
  refine QW.if_eq 18 dX8_still_5 rfl (fun hc => ?_) (fun hc => ?_)
  · replace vc := vc.1 hc
    refine QW.bipush (-3 : Int32) rfl dX8_still_18 ?_
    exact FW.ret dX8_still_20 rfl vc
  · replace vc := vc.2 hc
    refine QW.iload_n dX8_still_8 rfl ?_
    refine QW.i2l dX8_still_9 ?_
    refine QW.lconst (0 : Int64) rfl dX8_still_10 ?_
    refine QW.lconst (1 : Int64) rfl dX8_still_11 ?_
    refine FW.callSi [.long a3.toInt64, .long (0 : Int64), .long (1 : Int64)] [] rfl dX8_still_12 lmX8_70 rfl ⟨Nat.le_of_ble_eq_true rfl, Nat.le_of_ble_eq_true rfl⟩ ⟨rfl, rfl⟩ (Nat.le_of_ble_eq_true rfl) (FI.mono (fun x2 h2 vc => ?_) vc)
    refine QW.if_ne 21 dX8_still_15 rfl (fun hc => ?_) (fun hc => ?_)
    · replace vc := vc.1 hc
      refine QW.aload_n dX8_still_21 rfl ?_
      refine FW.callVv [] [] rfl dX8_still_22 lmX8_243 sC_44 rfl ⟨Nat.le_of_ble_eq_true rfl, Nat.le_of_ble_eq_true rfl⟩ ⟨rfl, rfl⟩ (Nat.le_of_ble_eq_true rfl) (FV.mono (fun h3 vc => ?_) vc)
      refine QW.iconst (0 : Int32) rfl dX8_still_25 ?_
      refine QW.istore [some (.ref 44), some (.int a1), some (.int a2), some (.int a3), some (.int (0 : Int32)), none, none] dX8_still_26 (by decide) rfl rfl ?_
      exact vc
    · replace vc := vc.2 hc
      refine QW.bipush (-3 : Int32) rfl dX8_still_18 ?_
      exact FW.ret dX8_still_20 rfl vc
theorem vX8_still_28 {g : QG} {K : Int32 → Hp → Prop} {h : Hp} {a1 a2 a3 a4 : Int32} (vc : (((1 : Int32) <<< ((h 44 13) &&& 31)) ≤ a4 → FV g mX8_restorePaces [.ref 44] h (fun h1 => FW g mX8_still 66 [some (.ref 44), none, none, some (.int a3), some (.int (0 : Int32)), some (.int (-1 : Int32)), some (.int (0 : Int32))] [] h1 (q_RI K))) ∧ (¬ ((1 : Int32) <<< ((h 44 13) &&& 31)) ≤ a4 → FV g mX8_layStands [.ref 44, .int a4, .int a1, .int a2] h (fun h2 => FW g mX8_still 28 [some (.ref 44), some (.int a1), some (.int a2), some (.int a3), some (.int (a4 + (1 : Int32))), none, none] [] h2 (q_RI K)))) : FW g mX8_still 28 [some (.ref 44), some (.int a1), some (.int a2), some (.int a3), some (.int a4), none, none] [] h (q_RI K) := by
  refine QW.iload dX8_still_28 rfl ?_
  refine QW.iconst (1 : Int32) rfl dX8_still_30 ?_
  refine QW.aload_n dX8_still_31 rfl ?_
  refine FW.getI (h 44 13) dX8_still_32 lfX8_74 sI_44_13 rfl ?_
  refine QW.ishl dX8_still_35 ?_
  refine QW.icmp_ge 53 dX8_still_36 rfl (fun hc => ?_) (fun hc => ?_)
  · replace vc := vc.1 hc
    refine QW.aload_n dX8_still_53 rfl ?_
    refine FW.callVv [] [] rfl dX8_still_54 lmX8_250 sC_44 rfl ⟨Nat.le_of_ble_eq_true rfl, Nat.le_of_ble_eq_true rfl⟩ ⟨rfl, rfl⟩ (Nat.le_of_ble_eq_true rfl) (FV.mono (fun h1 vc => ?_) vc)
    refine QW.iconst (0 : Int32) rfl dX8_still_57 ?_
    refine QW.istore [some (.ref 44), some (.int a1), some (.int a2), some (.int a3), some (.int (0 : Int32)), none, none] dX8_still_58 (by decide) rfl rfl ?_
    refine QW.iconst (-1 : Int32) rfl dX8_still_60 ?_
    refine QW.istore [some (.ref 44), some (.int a1), some (.int a2), some (.int a3), some (.int (0 : Int32)), some (.int (-1 : Int32)), none] dX8_still_61 (by decide) rfl rfl ?_
    refine QW.iconst (0 : Int32) rfl dX8_still_63 ?_
    refine QW.istore [some (.ref 44), some (.int a1), some (.int a2), some (.int a3), some (.int (0 : Int32)), some (.int (-1 : Int32)), some (.int (0 : Int32))] dX8_still_64 (by decide) rfl rfl ?_
    exact QW.sub (by exact ⟨rfl, ⟨rfl, ⟨rfl, ⟨rfl, ⟨rfl, trivial⟩⟩⟩⟩⟩) vc
  · replace vc := vc.2 hc
    refine QW.aload_n dX8_still_39 rfl ?_
    refine QW.iload dX8_still_40 rfl ?_
    refine QW.iload_n dX8_still_42 rfl ?_
    refine QW.iload_n dX8_still_43 rfl ?_
    refine FW.callVv [.int a4, .int a1, .int a2] [] rfl dX8_still_44 lmX8_246 sC_44 rfl ⟨Nat.le_of_ble_eq_true rfl, Nat.le_of_ble_eq_true rfl⟩ ⟨rfl, rfl⟩ (Nat.le_of_ble_eq_true rfl) (FV.mono (fun h2 vc => ?_) vc)
    refine QW.iinc (a4 + (1 : Int32)) [some (.ref 44), some (.int a1), some (.int a2), some (.int a3), some (.int (a4 + (1 : Int32))), none, none] dX8_still_47 rfl rfl (by decide) rfl rfl ?_
    refine QW.goto 28 dX8_still_50 rfl ?_
    exact vc
theorem vX8_still_66 {g : QG} {K : Int32 → Hp → Prop} {h : Hp} {a3 a4 a5 a6 : Int32} (vc : (((1 : Int32) <<< ((h 44 13) &&& 31)) ≤ a6 → (¬ a3 = 0 → K a5 h) ∧ (a3 = 0 → K a4 h)) ∧ (¬ ((1 : Int32) <<< ((h 44 13) &&& 31)) ≤ a6 → (¬ a4 = 0 → FW g mX8_still 98 [some (.ref 44), none, none, some (.int a3), some (.int a4), none, some (.int a6)] [.int a5] h (q_RI K)) ∧ (a4 = 0 → FI g mX8_isStill [.ref 44, .int a6] h (fun x1 h1 => (x1 = 0 → FW g mX8_still 98 [some (.ref 44), none, none, some (.int a3), some (.int a4), none, some (.int a6)] [.int a5] h1 (q_RI K)) ∧ (¬ x1 = 0 → FW g mX8_still 98 [some (.ref 44), none, none, some (.int a3), some (.int a4), none, some (.int a6)] [.int a6] h1 (q_RI K)))))) : FW g mX8_still 66 [some (.ref 44), none, none, some (.int a3), some (.int a4), some (.int a5), some (.int a6)] [] h (q_RI K) := by
  refine QW.iload dX8_still_66 rfl ?_
  refine QW.iconst (1 : Int32) rfl dX8_still_68 ?_
  refine QW.aload_n dX8_still_69 rfl ?_
  refine FW.getI (h 44 13) dX8_still_70 lfX8_74 sI_44_13 rfl ?_
  refine QW.ishl dX8_still_73 ?_
  refine QW.icmp_ge 125 dX8_still_74 rfl (fun hc => ?_) (fun hc => ?_)
  · replace vc := vc.1 hc
    refine QW.iload_n dX8_still_125 rfl ?_
    refine QW.if_ne 134 dX8_still_126 rfl (fun hc => ?_) (fun hc => ?_)
    · replace vc := vc.1 hc
      refine QW.iload dX8_still_134 rfl ?_
      exact FW.ret dX8_still_136 rfl vc
    · replace vc := vc.2 hc
      refine QW.iload dX8_still_129 rfl ?_
      refine QW.goto 136 dX8_still_131 rfl ?_
      exact FW.ret dX8_still_136 rfl vc
  · replace vc := vc.2 hc
    refine QW.iload dX8_still_77 rfl ?_
    refine QW.if_ne 96 dX8_still_79 rfl (fun hc => ?_) (fun hc => ?_)
    · replace vc := vc.1 hc
      refine QW.iload dX8_still_96 rfl ?_
      exact QW.sub (by exact ⟨rfl, ⟨rfl, ⟨rfl, ⟨rfl, trivial⟩⟩⟩⟩) vc
    · replace vc := vc.2 hc
      refine QW.aload_n dX8_still_82 rfl ?_
      refine QW.iload dX8_still_83 rfl ?_
      refine FW.callVi [.int a6] [] rfl dX8_still_85 lmX8_253 sC_44 rfl ⟨Nat.le_of_ble_eq_true rfl, Nat.le_of_ble_eq_true rfl⟩ ⟨rfl, rfl⟩ (Nat.le_of_ble_eq_true rfl) (FI.mono (fun x1 h1 vc => ?_) vc)
      refine QW.if_eq 96 dX8_still_88 rfl (fun hc => ?_) (fun hc => ?_)
      · replace vc := vc.1 hc
        refine QW.iload dX8_still_96 rfl ?_
        exact QW.sub (by exact ⟨rfl, ⟨rfl, ⟨rfl, ⟨rfl, trivial⟩⟩⟩⟩) vc
      · replace vc := vc.2 hc
        refine QW.iload dX8_still_91 rfl ?_
        refine QW.goto 98 dX8_still_93 rfl ?_
        exact QW.sub (by exact ⟨rfl, ⟨rfl, ⟨rfl, ⟨rfl, trivial⟩⟩⟩⟩) vc
theorem vX8_still_98 {g : QG} {K : Int32 → Hp → Prop} {h : Hp} {a3 a4 a6 s0 : Int32} (vc : FI g mX8_isStill [.ref 44, .int a6] h (fun x1 h1 => (x1 = 0 → FW g mX8_still 66 [some (.ref 44), none, none, some (.int a3), some (.int (a4 + (0 : Int32))), some (.int s0), some (.int (a6 + (1 : Int32)))] [] h1 (q_RI K)) ∧ (¬ x1 = 0 → FW g mX8_still 66 [some (.ref 44), none, none, some (.int a3), some (.int (a4 + (1 : Int32))), some (.int s0), some (.int (a6 + (1 : Int32)))] [] h1 (q_RI K)))) : FW g mX8_still 98 [some (.ref 44), none, none, some (.int a3), some (.int a4), none, some (.int a6)] [.int s0] h (q_RI K) := by
  refine QW.istore [some (.ref 44), none, none, some (.int a3), some (.int a4), some (.int s0), some (.int a6)] dX8_still_98 (by decide) rfl rfl ?_
  refine QW.iload dX8_still_100 rfl ?_
  refine QW.aload_n dX8_still_102 rfl ?_
  refine QW.iload dX8_still_103 rfl ?_
  refine FW.callVi [.int a6] [.int a4] rfl dX8_still_105 lmX8_253 sC_44 rfl ⟨Nat.le_of_ble_eq_true rfl, Nat.le_of_ble_eq_true rfl⟩ ⟨rfl, rfl⟩ (Nat.le_of_ble_eq_true rfl) (FI.mono (fun x1 h1 vc => ?_) vc)
  refine QW.if_eq 115 dX8_still_108 rfl (fun hc => ?_) (fun hc => ?_)
  · replace vc := vc.1 hc
    refine QW.iconst (0 : Int32) rfl dX8_still_115 ?_
    refine QW.iadd dX8_still_116 ?_
    refine QW.istore [some (.ref 44), none, none, some (.int a3), some (.int (a4 + (0 : Int32))), some (.int s0), some (.int a6)] dX8_still_117 (by decide) rfl rfl ?_
    refine QW.iinc (a6 + (1 : Int32)) [some (.ref 44), none, none, some (.int a3), some (.int (a4 + (0 : Int32))), some (.int s0), some (.int (a6 + (1 : Int32)))] dX8_still_119 rfl rfl (by decide) rfl rfl ?_
    refine QW.goto 66 dX8_still_122 rfl ?_
    exact vc
  · replace vc := vc.2 hc
    refine QW.iconst (1 : Int32) rfl dX8_still_111 ?_
    refine QW.goto 116 dX8_still_112 rfl ?_
    refine QW.iadd dX8_still_116 ?_
    refine QW.istore [some (.ref 44), none, none, some (.int a3), some (.int (a4 + (1 : Int32))), some (.int s0), some (.int a6)] dX8_still_117 (by decide) rfl rfl ?_
    refine QW.iinc (a6 + (1 : Int32)) [some (.ref 44), none, none, some (.int a3), some (.int (a4 + (1 : Int32))), some (.int s0), some (.int (a6 + (1 : Int32)))] dX8_still_119 rfl rfl (by decide) rfl rfl ?_
    refine QW.goto 66 dX8_still_122 rfl ?_
    exact vc
theorem vX7_plot_0 {g : QG} {K : Int32 → Hp → Prop} {h : Hp} {a1 a2 a3 a4 : Int32} (vc : FI g mX6_hasGuest [.ref 1, .int a1] h (fun x1 h1 => (x1 = 0 → K (-2 : Int32) h1) ∧ (¬ x1 = 0 → FI g mX6_hasAll [.ref 1, .int a2] h1 (fun x2 h2 => (x2 = 0 → K (-2 : Int32) h2) ∧ (¬ x2 = 0 → FI g mX7_holds [.int a2, .int a1] h2 (fun x3 h3 => (x3 = 0 → FI g mX7_isMinute [.int a3] h3 (fun x4 h4 => (x4 = 0 → K (-3 : Int32) h4) ∧ (¬ x4 = 0 → FI g mX7_isEither [.int a4] h4 (fun x5 h5 => (¬ x5 = 0 → FV g mX1_findPlot [.ref 24, .int a1, .int a2, .int a3] h5 (fun h6 => (¬ a4 = 0 → K (h6 24 4) h6) ∧ (a4 = 0 → K (h6 24 3) h6))) ∧ (x5 = 0 → K (-3 : Int32) h5))))) ∧ (¬ x3 = 0 → K (-2 : Int32) h3))))))) : FW g mX7_plot 0 [some (.ref 0), some (.int a1), some (.int a2), some (.int a3), some (.int a4)] [] h (q_RI K) := by
  refine QW.aload_n dX7_plot_0 rfl ?_
  refine FW.getR dX7_plot_1 lfX7_10 sR_0_0 ?_
  refine QW.iload_n dX7_plot_4 rfl ?_
  refine FW.callVi [.int a1] [] rfl dX7_plot_5 lmX7_121 sC_1 rfl ⟨Nat.le_of_ble_eq_true rfl, Nat.le_of_ble_eq_true rfl⟩ ⟨rfl, rfl⟩ (Nat.le_of_ble_eq_true rfl) (FI.mono (fun x1 h1 vc => ?_) vc)
  refine QW.if_eq 30 dX7_plot_8 rfl (fun hc => ?_) (fun hc => ?_)
  · replace vc := vc.1 hc
    refine QW.bipush (-2 : Int32) rfl dX7_plot_30 ?_
    exact FW.ret dX7_plot_32 rfl vc
  · replace vc := vc.2 hc
    refine QW.aload_n dX7_plot_11 rfl ?_
    refine FW.getR dX7_plot_12 lfX7_10 sR_0_0 ?_
    refine QW.iload_n dX7_plot_15 rfl ?_
    refine FW.callVi [.int a2] [] rfl dX7_plot_16 lmX7_240 sC_1 rfl ⟨Nat.le_of_ble_eq_true rfl, Nat.le_of_ble_eq_true rfl⟩ ⟨rfl, rfl⟩ (Nat.le_of_ble_eq_true rfl) (FI.mono (fun x2 h2 vc => ?_) vc)
    refine QW.if_eq 30 dX7_plot_19 rfl (fun hc => ?_) (fun hc => ?_)
    · replace vc := vc.1 hc
      refine QW.bipush (-2 : Int32) rfl dX7_plot_30 ?_
      exact FW.ret dX7_plot_32 rfl vc
    · replace vc := vc.2 hc
      refine QW.iload_n dX7_plot_22 rfl ?_
      refine QW.iload_n dX7_plot_23 rfl ?_
      refine FW.callSi [.int a2, .int a1] [] rfl dX7_plot_24 lmX7_243 rfl ⟨Nat.le_of_ble_eq_true rfl, Nat.le_of_ble_eq_true rfl⟩ ⟨rfl, rfl⟩ (Nat.le_of_ble_eq_true rfl) (FI.mono (fun x3 h3 vc => ?_) vc)
      refine QW.if_eq 33 dX7_plot_27 rfl (fun hc => ?_) (fun hc => ?_)
      · replace vc := vc.1 hc
        refine QW.iload_n dX7_plot_33 rfl ?_
        refine FW.callSi [.int a3] [] rfl dX7_plot_34 lmX7_199 rfl ⟨Nat.le_of_ble_eq_true rfl, Nat.le_of_ble_eq_true rfl⟩ ⟨rfl, rfl⟩ (Nat.le_of_ble_eq_true rfl) (FI.mono (fun x4 h4 vc => ?_) vc)
        refine QW.if_eq 48 dX7_plot_37 rfl (fun hc => ?_) (fun hc => ?_)
        · replace vc := vc.1 hc
          refine QW.bipush (-3 : Int32) rfl dX7_plot_48 ?_
          exact FW.ret dX7_plot_50 rfl vc
        · replace vc := vc.2 hc
          refine QW.iload dX7_plot_40 rfl ?_
          refine FW.callSi [.int a4] [] rfl dX7_plot_42 lmX7_193 rfl ⟨Nat.le_of_ble_eq_true rfl, Nat.le_of_ble_eq_true rfl⟩ ⟨rfl, rfl⟩ (Nat.le_of_ble_eq_true rfl) (FI.mono (fun x5 h5 vc => ?_) vc)
          refine QW.if_ne 51 dX7_plot_45 rfl (fun hc => ?_) (fun hc => ?_)
          · replace vc := vc.1 hc
            refine QW.aload_n dX7_plot_51 rfl ?_
            refine FW.getR dX7_plot_52 lfX7_46 sR_0_4 ?_
            refine QW.iload_n dX7_plot_55 rfl ?_
            refine QW.iload_n dX7_plot_56 rfl ?_
            refine QW.iload_n dX7_plot_57 rfl ?_
            refine FW.callVv [.int a1, .int a2, .int a3] [] rfl dX7_plot_58 lmX7_246 sC_24 rfl ⟨Nat.le_of_ble_eq_true rfl, Nat.le_of_ble_eq_true rfl⟩ ⟨rfl, rfl⟩ (Nat.le_of_ble_eq_true rfl) (FV.mono (fun h6 vc => ?_) vc)
            refine QW.iload dX7_plot_61 rfl ?_
            refine QW.if_ne 76 dX7_plot_63 rfl (fun hc => ?_) (fun hc => ?_)
            · replace vc := vc.1 hc
              refine QW.aload_n dX7_plot_76 rfl ?_
              refine FW.getR dX7_plot_77 lfX7_46 sR_0_4 ?_
              refine FW.getI (h6 24 4) dX7_plot_80 lfX7_237 sI_24_4 rfl ?_
              exact FW.ret dX7_plot_83 rfl vc
            · replace vc := vc.2 hc
              refine QW.aload_n dX7_plot_66 rfl ?_
              refine FW.getR dX7_plot_67 lfX7_46 sR_0_4 ?_
              refine FW.getI (h6 24 3) dX7_plot_70 lfX7_231 sI_24_3 rfl ?_
              refine QW.goto 83 dX7_plot_73 rfl ?_
              exact FW.ret dX7_plot_83 rfl vc
          · replace vc := vc.2 hc
            refine QW.bipush (-3 : Int32) rfl dX7_plot_48 ?_
            exact FW.ret dX7_plot_50 rfl vc
      · replace vc := vc.2 hc
        refine QW.bipush (-2 : Int32) rfl dX7_plot_30 ?_
        exact FW.ret dX7_plot_32 rfl vc
theorem vX7_laid_0 {g : QG} {K : Int32 → Hp → Prop} {h : Hp} {a1 a2 a3 a4 : Int32} (vc : (a1 < 0 → K (-3 : Int32) h) ∧ (¬ a1 < 0 → ((h 1 0) < a1 → K (-3 : Int32) h) ∧ (¬ (h 1 0) < a1 → FI g mX7_areMinutes [.int a2, .int a3] h (fun x1 h1 => (x1 = 0 → K (-3 : Int32) h1) ∧ (¬ x1 = 0 → FI g mX7_isEither [.int a4] h1 (fun x2 h2 => (¬ x2 = 0 → FV g mX1_findLaid [.ref 24, .int a1, .int a2, .int a3] h2 (fun h3 => (¬ a4 = 0 → K (h3 24 4) h3) ∧ (a4 = 0 → K (h3 24 3) h3))) ∧ (x2 = 0 → K (-3 : Int32) h2))))))) : FW g mX7_laid 0 [some (.ref 0), some (.int a1), some (.int a2), some (.int a3), some (.int a4)] [] h (q_RI K) := by
  refine QW.iload_n dX7_laid_0 rfl ?_
  refine QW.if_lt 31 dX7_laid_1 rfl (fun hc => ?_) (fun hc => ?_)
  · replace vc := vc.1 hc
    refine QW.bipush (-3 : Int32) rfl dX7_laid_31 ?_
    exact FW.ret dX7_laid_33 rfl vc
  · replace vc := vc.2 hc
    refine QW.iload_n dX7_laid_4 rfl ?_
    refine QW.aload_n dX7_laid_5 rfl ?_
    refine FW.getR dX7_laid_6 lfX7_10 sR_0_0 ?_
    refine FW.getI (h 1 0) dX7_laid_9 lfX7_255 sI_1_0 rfl ?_
    refine QW.icmp_gt 31 dX7_laid_12 rfl (fun hc => ?_) (fun hc => ?_)
    · replace vc := vc.1 hc
      refine QW.bipush (-3 : Int32) rfl dX7_laid_31 ?_
      exact FW.ret dX7_laid_33 rfl vc
    · replace vc := vc.2 hc
      refine QW.iload_n dX7_laid_15 rfl ?_
      refine QW.iload_n dX7_laid_16 rfl ?_
      refine FW.callSi [.int a2, .int a3] [] rfl dX7_laid_17 lmX7_208 rfl ⟨Nat.le_of_ble_eq_true rfl, Nat.le_of_ble_eq_true rfl⟩ ⟨rfl, rfl⟩ (Nat.le_of_ble_eq_true rfl) (FI.mono (fun x1 h1 vc => ?_) vc)
      refine QW.if_eq 31 dX7_laid_20 rfl (fun hc => ?_) (fun hc => ?_)
      · replace vc := vc.1 hc
        refine QW.bipush (-3 : Int32) rfl dX7_laid_31 ?_
        exact FW.ret dX7_laid_33 rfl vc
      · replace vc := vc.2 hc
        refine QW.iload dX7_laid_23 rfl ?_
        refine FW.callSi [.int a4] [] rfl dX7_laid_25 lmX7_193 rfl ⟨Nat.le_of_ble_eq_true rfl, Nat.le_of_ble_eq_true rfl⟩ ⟨rfl, rfl⟩ (Nat.le_of_ble_eq_true rfl) (FI.mono (fun x2 h2 vc => ?_) vc)
        refine QW.if_ne 34 dX7_laid_28 rfl (fun hc => ?_) (fun hc => ?_)
        · replace vc := vc.1 hc
          refine QW.aload_n dX7_laid_34 rfl ?_
          refine FW.getR dX7_laid_35 lfX7_46 sR_0_4 ?_
          refine QW.iload_n dX7_laid_38 rfl ?_
          refine QW.iload_n dX7_laid_39 rfl ?_
          refine QW.iload_n dX7_laid_40 rfl ?_
          refine FW.callVv [.int a1, .int a2, .int a3] [] rfl dX7_laid_41 lmX7_258 sC_24 rfl ⟨Nat.le_of_ble_eq_true rfl, Nat.le_of_ble_eq_true rfl⟩ ⟨rfl, rfl⟩ (Nat.le_of_ble_eq_true rfl) (FV.mono (fun h3 vc => ?_) vc)
          refine QW.iload dX7_laid_44 rfl ?_
          refine QW.if_ne 59 dX7_laid_46 rfl (fun hc => ?_) (fun hc => ?_)
          · replace vc := vc.1 hc
            refine QW.aload_n dX7_laid_59 rfl ?_
            refine FW.getR dX7_laid_60 lfX7_46 sR_0_4 ?_
            refine FW.getI (h3 24 4) dX7_laid_63 lfX7_237 sI_24_4 rfl ?_
            exact FW.ret dX7_laid_66 rfl vc
          · replace vc := vc.2 hc
            refine QW.aload_n dX7_laid_49 rfl ?_
            refine FW.getR dX7_laid_50 lfX7_46 sR_0_4 ?_
            refine FW.getI (h3 24 3) dX7_laid_53 lfX7_231 sI_24_3 rfl ?_
            refine QW.goto 66 dX7_laid_56 rfl ?_
            exact FW.ret dX7_laid_66 rfl vc
        · replace vc := vc.2 hc
          refine QW.bipush (-3 : Int32) rfl dX7_laid_31 ?_
          exact FW.ret dX7_laid_33 rfl vc
theorem vX7_left_0 {g : QG} {K : Int32 → Hp → Prop} {h : Hp} {a1 a2 : Int32} (vc : FI g mX7_isMinute [.int a1] h (fun x1 h1 => (x1 = 0 → K (-3 : Int32) h1) ∧ (¬ x1 = 0 → FI g mX7_isEither [.int a2] h1 (fun x2 h2 => (¬ x2 = 0 → FI g mX2_playRounds [.ref 20, .int a1] h2 (fun x3 h3 => (¬ a2 = 0 → K x3 h3) ∧ (a2 = 0 → K (h3 20 5) h3))) ∧ (x2 = 0 → K (-3 : Int32) h2))))) : FW g mX7_left 0 [some (.ref 0), some (.int a1), some (.int a2), none] [] h (q_RI K) := by
  refine QW.iload_n dX7_left_0 rfl ?_
  refine FW.callSi [.int a1] [] rfl dX7_left_1 lmX7_199 rfl ⟨Nat.le_of_ble_eq_true rfl, Nat.le_of_ble_eq_true rfl⟩ ⟨rfl, rfl⟩ (Nat.le_of_ble_eq_true rfl) (FI.mono (fun x1 h1 vc => ?_) vc)
  refine QW.if_eq 14 dX7_left_4 rfl (fun hc => ?_) (fun hc => ?_)
  · replace vc := vc.1 hc
    refine QW.bipush (-3 : Int32) rfl dX7_left_14 ?_
    exact FW.ret dX7_left_16 rfl vc
  · replace vc := vc.2 hc
    refine QW.iload_n dX7_left_7 rfl ?_
    refine FW.callSi [.int a2] [] rfl dX7_left_8 lmX7_193 rfl ⟨Nat.le_of_ble_eq_true rfl, Nat.le_of_ble_eq_true rfl⟩ ⟨rfl, rfl⟩ (Nat.le_of_ble_eq_true rfl) (FI.mono (fun x2 h2 vc => ?_) vc)
    refine QW.if_ne 17 dX7_left_11 rfl (fun hc => ?_) (fun hc => ?_)
    · replace vc := vc.1 hc
      refine QW.aload_n dX7_left_17 rfl ?_
      refine FW.getR dX7_left_18 lfX7_37 sR_0_3 ?_
      refine QW.iload_n dX7_left_21 rfl ?_
      refine FW.callVi [.int a1] [] rfl dX7_left_22 lmX7_261 sC_20 rfl ⟨Nat.le_of_ble_eq_true rfl, Nat.le_of_ble_eq_true rfl⟩ ⟨rfl, rfl⟩ (Nat.le_of_ble_eq_true rfl) (FI.mono (fun x3 h3 vc => ?_) vc)
      refine QW.istore_n [some (.ref 0), some (.int a1), some (.int a2), some (.int x3)] dX7_left_25 (by decide) rfl rfl ?_
      refine QW.iload_n dX7_left_26 rfl ?_
      refine QW.if_ne 40 dX7_left_27 rfl (fun hc => ?_) (fun hc => ?_)
      · replace vc := vc.1 hc
        refine QW.iload_n dX7_left_40 rfl ?_
        exact FW.ret dX7_left_41 rfl vc
      · replace vc := vc.2 hc
        refine QW.aload_n dX7_left_30 rfl ?_
        refine FW.getR dX7_left_31 lfX7_37 sR_0_3 ?_
        refine FW.getI (h3 20 5) dX7_left_34 lfX7_264 sI_20_5 rfl ?_
        refine QW.goto 41 dX7_left_37 rfl ?_
        exact FW.ret dX7_left_41 rfl vc
    · replace vc := vc.2 hc
      refine QW.bipush (-3 : Int32) rfl dX7_left_14 ?_
      exact FW.ret dX7_left_16 rfl vc
theorem vX7_fits_0 {g : QG} {K : Int32 → Hp → Prop} {h : Hp} {a1 : Int32} (vc : FI g mX7_isEither [.int a1] h (fun x1 h1 => (¬ x1 = 0 → FV g mX1_findFits [.ref 24, .ref 41] h1 (fun h2 => (¬ a1 = 0 → K (h2 24 4) h2) ∧ (a1 = 0 → K (h2 24 3) h2))) ∧ (x1 = 0 → K (-3 : Int32) h1))) : FW g mX7_fits 0 [some (.ref 0), some (.int a1)] [] h (q_RI K) := by
  refine QW.iload_n dX7_fits_0 rfl ?_
  refine FW.callSi [.int a1] [] rfl dX7_fits_1 lmX7_193 rfl ⟨Nat.le_of_ble_eq_true rfl, Nat.le_of_ble_eq_true rfl⟩ ⟨rfl, rfl⟩ (Nat.le_of_ble_eq_true rfl) (FI.mono (fun x1 h1 vc => ?_) vc)
  refine QW.if_ne 10 dX7_fits_4 rfl (fun hc => ?_) (fun hc => ?_)
  · replace vc := vc.1 hc
    refine QW.aload_n dX7_fits_10 rfl ?_
    refine FW.getR dX7_fits_11 lfX7_46 sR_0_4 ?_
    refine QW.aload_n dX7_fits_14 rfl ?_
    refine FW.getR dX7_fits_15 lfX7_66 sR_0_8 ?_
    refine FW.callVv [.ref 41] [] rfl dX7_fits_18 lmX7_270 sC_24 rfl ⟨Nat.le_of_ble_eq_true rfl, Nat.le_of_ble_eq_true rfl⟩ ⟨rfl, rfl⟩ (Nat.le_of_ble_eq_true rfl) (FV.mono (fun h2 vc => ?_) vc)
    refine QW.iload_n dX7_fits_21 rfl ?_
    refine QW.if_ne 35 dX7_fits_22 rfl (fun hc => ?_) (fun hc => ?_)
    · replace vc := vc.1 hc
      refine QW.aload_n dX7_fits_35 rfl ?_
      refine FW.getR dX7_fits_36 lfX7_46 sR_0_4 ?_
      refine FW.getI (h2 24 4) dX7_fits_39 lfX7_237 sI_24_4 rfl ?_
      exact FW.ret dX7_fits_42 rfl vc
    · replace vc := vc.2 hc
      refine QW.aload_n dX7_fits_25 rfl ?_
      refine FW.getR dX7_fits_26 lfX7_46 sR_0_4 ?_
      refine FW.getI (h2 24 3) dX7_fits_29 lfX7_231 sI_24_3 rfl ?_
      refine QW.goto 42 dX7_fits_32 rfl ?_
      exact FW.ret dX7_fits_42 rfl vc
  · replace vc := vc.2 hc
    refine QW.bipush (-3 : Int32) rfl dX7_fits_7 ?_
    exact FW.ret dX7_fits_9 rfl vc
theorem vX5_doLine_0 {g : QG} {K : Int32 → Hp → Prop} {h : Hp} (vc : FV g mX5_nextToken [.ref 7] h (fun h1 => FI g mX5_isWord [.ref 7, .ref (2000 + 0)] h1 (fun x2 h2 => (x2 = 0 → FI g mX5_isWord [.ref 7, .ref (2000 + 1)] h2 (fun x3 h3 => (x3 = 0 → FI g mX5_isWord [.ref 7, .ref (2000 + 2)] h3 (fun x4 h4 => (x4 = 0 → FI g mX5_isWord [.ref 7, .ref (2000 + 3)] h4 (fun x5 h5 => (x5 = 0 → FI g mX5_kindOfWord [.ref 7] h5 (fun x6 h6 => (x6 = (-1 : Int32) → K (0 : Int32) h6) ∧ (¬ x6 = (-1 : Int32) → FI g mX5_doGuest [.ref 7, .int x6] h6 (fun x7 h7 => (x7 = 0 → K (0 : Int32) h7) ∧ (¬ x7 = 0 → K (1 : Int32) h7))))) ∧ (¬ x5 = 0 → K (1 : Int32) (q_up h5 9 2 (0 : Int32))))) ∧ (¬ x4 = 0 → FI g mX5_doChair [.ref 7, .int (1 : Int32)] h4 (fun x8 h8 => q_bool x8 ∧ K x8 h8)))) ∧ (¬ x3 = 0 → FI g mX5_doChair [.ref 7, .int (0 : Int32)] h3 (fun x9 h9 => q_bool x9 ∧ K x9 h9)))) ∧ (¬ x2 = 0 → FI g mX5_doInn [.ref 7] h2 (fun x10 h10 => q_bool x10 ∧ K x10 h10))))) : FW g mX5_doLine 0 [some (.ref 7), none] [] h (q_RI K) := by
  refine QW.aload_n dX5_doLine_0 rfl ?_
  refine FW.callVv [] [] rfl dX5_doLine_1 lmX5_46 sC_7 rfl ⟨Nat.le_of_ble_eq_true rfl, Nat.le_of_ble_eq_true rfl⟩ ⟨rfl, rfl⟩ (Nat.le_of_ble_eq_true rfl) (FV.mono (fun h1 vc => ?_) vc)
  refine QW.aload_n dX5_doLine_4 rfl ?_
  refine QW.ldcS (i := 0) rfl (by decide) rfl dX5_doLine_5 ?_
  refine FW.callVi [.ref (2000 + 0)] [] rfl dX5_doLine_7 lmX5_67 sC_7 rfl ⟨Nat.le_of_ble_eq_true rfl, Nat.le_of_ble_eq_true rfl⟩ ⟨rfl, rfl⟩ (Nat.le_of_ble_eq_true rfl) (FI.mono (fun x2 h2 vc => ?_) vc)
  refine QW.if_eq 18 dX5_doLine_10 rfl (fun hc => ?_) (fun hc => ?_)
  · replace vc := vc.1 hc
    refine QW.aload_n dX5_doLine_18 rfl ?_
    refine QW.ldcS (i := 1) rfl (by decide) rfl dX5_doLine_19 ?_
    refine FW.callVi [.ref (2000 + 1)] [] rfl dX5_doLine_21 lmX5_67 sC_7 rfl ⟨Nat.le_of_ble_eq_true rfl, Nat.le_of_ble_eq_true rfl⟩ ⟨rfl, rfl⟩ (Nat.le_of_ble_eq_true rfl) (FI.mono (fun x3 h3 vc => ?_) vc)
    refine QW.if_eq 33 dX5_doLine_24 rfl (fun hc => ?_) (fun hc => ?_)
    · replace vc := vc.1 hc
      refine QW.aload_n dX5_doLine_33 rfl ?_
      refine QW.ldcS (i := 2) rfl (by decide) rfl dX5_doLine_34 ?_
      refine FW.callVi [.ref (2000 + 2)] [] rfl dX5_doLine_36 lmX5_67 sC_7 rfl ⟨Nat.le_of_ble_eq_true rfl, Nat.le_of_ble_eq_true rfl⟩ ⟨rfl, rfl⟩ (Nat.le_of_ble_eq_true rfl) (FI.mono (fun x4 h4 vc => ?_) vc)
      refine QW.if_eq 48 dX5_doLine_39 rfl (fun hc => ?_) (fun hc => ?_)
      · replace vc := vc.1 hc
        refine QW.aload_n dX5_doLine_48 rfl ?_
        refine QW.ldcS (i := 3) rfl (by decide) rfl dX5_doLine_49 ?_
        refine FW.callVi [.ref (2000 + 3)] [] rfl dX5_doLine_51 lmX5_67 sC_7 rfl ⟨Nat.le_of_ble_eq_true rfl, Nat.le_of_ble_eq_true rfl⟩ ⟨rfl, rfl⟩ (Nat.le_of_ble_eq_true rfl) (FI.mono (fun x5 h5 vc => ?_) vc)
        refine QW.if_eq 67 dX5_doLine_54 rfl (fun hc => ?_) (fun hc => ?_)
        · replace vc := vc.1 hc
          refine QW.aload_n dX5_doLine_67 rfl ?_
          refine FW.callVi [] [] rfl dX5_doLine_68 lmX5_87 sC_7 rfl ⟨Nat.le_of_ble_eq_true rfl, Nat.le_of_ble_eq_true rfl⟩ ⟨rfl, rfl⟩ (Nat.le_of_ble_eq_true rfl) (FI.mono (fun x6 h6 vc => ?_) vc)
          refine QW.istore_n [some (.ref 7), some (.int x6)] dX5_doLine_71 (by decide) rfl rfl ?_
          refine QW.iload_n dX5_doLine_72 rfl ?_
          refine QW.iconst (-1 : Int32) rfl dX5_doLine_73 ?_
          refine QW.icmp_eq 89 dX5_doLine_74 rfl (fun hc => ?_) (fun hc => ?_)
          · replace vc := vc.1 hc
            refine QW.iconst (0 : Int32) rfl dX5_doLine_89 ?_
            exact FW.retZ (Or.inl rfl) dX5_doLine_90 rfl vc
          · replace vc := vc.2 hc
            refine QW.aload_n dX5_doLine_77 rfl ?_
            refine QW.iload_n dX5_doLine_78 rfl ?_
            refine FW.callVi [.int x6] [] rfl dX5_doLine_79 lmX5_90 sC_7 rfl ⟨Nat.le_of_ble_eq_true rfl, Nat.le_of_ble_eq_true rfl⟩ ⟨rfl, rfl⟩ (Nat.le_of_ble_eq_true rfl) (FI.mono (fun x7 h7 vc => ?_) vc)
            refine QW.if_eq 89 dX5_doLine_82 rfl (fun hc => ?_) (fun hc => ?_)
            · replace vc := vc.1 hc
              refine QW.iconst (0 : Int32) rfl dX5_doLine_89 ?_
              exact FW.retZ (Or.inl rfl) dX5_doLine_90 rfl vc
            · replace vc := vc.2 hc
              refine QW.iconst (1 : Int32) rfl dX5_doLine_85 ?_
              refine QW.goto 90 dX5_doLine_86 rfl ?_
              exact FW.retZ (Or.inr rfl) dX5_doLine_90 rfl vc
        · replace vc := vc.2 hc
          refine QW.aload_n dX5_doLine_57 rfl ?_
          refine FW.getR dX5_doLine_58 lfX5_18 sR_7_2 ?_
          refine QW.iconst (0 : Int32) rfl dX5_doLine_61 ?_
          refine FW.putI dX5_doLine_62 lfX5_84 sP_9_2 ?_
          refine QW.iconst (1 : Int32) rfl dX5_doLine_65 ?_
          exact FW.retZ (Or.inr rfl) dX5_doLine_66 rfl vc
      · replace vc := vc.2 hc
        refine QW.aload_n dX5_doLine_42 rfl ?_
        refine QW.iconst (1 : Int32) rfl dX5_doLine_43 ?_
        refine FW.callVi [.int (1 : Int32)] [] rfl dX5_doLine_44 lmX5_76 sC_7 rfl ⟨Nat.le_of_ble_eq_true rfl, Nat.le_of_ble_eq_true rfl⟩ ⟨rfl, rfl⟩ (Nat.le_of_ble_eq_true rfl) (FI.mono (fun x8 h8 vc => ?_) vc)
        exact FW.retZ vc.1 dX5_doLine_47 rfl vc.2
    · replace vc := vc.2 hc
      refine QW.aload_n dX5_doLine_27 rfl ?_
      refine QW.iconst (0 : Int32) rfl dX5_doLine_28 ?_
      refine FW.callVi [.int (0 : Int32)] [] rfl dX5_doLine_29 lmX5_76 sC_7 rfl ⟨Nat.le_of_ble_eq_true rfl, Nat.le_of_ble_eq_true rfl⟩ ⟨rfl, rfl⟩ (Nat.le_of_ble_eq_true rfl) (FI.mono (fun x9 h9 vc => ?_) vc)
      exact FW.retZ vc.1 dX5_doLine_32 rfl vc.2
  · replace vc := vc.2 hc
    refine QW.aload_n dX5_doLine_13 rfl ?_
    refine FW.callVi [] [] rfl dX5_doLine_14 lmX5_71 sC_7 rfl ⟨Nat.le_of_ble_eq_true rfl, Nat.le_of_ble_eq_true rfl⟩ ⟨rfl, rfl⟩ (Nat.le_of_ble_eq_true rfl) (FI.mono (fun x10 h10 vc => ?_) vc)
    exact FW.retZ vc.1 dX5_doLine_17 rfl vc.2
theorem vX5_read_0 {g : QG} {K : Int32 → Hp → Prop} {h : Hp} (vc : FV g mX6_copyFrom [.ref 9, .ref 1] h (fun h1 => FW g mX5_read 18 [some (.ref 7), none] [] (q_up (q_up h1 7 5 (0 : Int32)) 7 3 (1 : Int32)) (q_RI K))) : FW g mX5_read 0 [some (.ref 7), some (.ref 1)] [] h (q_RI K) := by
  refine QW.aload_n dX5_read_0 rfl ?_
  refine FW.getR dX5_read_1 lfX5_18 sR_7_2 ?_
  refine QW.aload_n dX5_read_4 rfl ?_
  refine FW.callVv [.ref 1] [] rfl dX5_read_5 lmX5_29 sC_9 rfl ⟨Nat.le_of_ble_eq_true rfl, Nat.le_of_ble_eq_true rfl⟩ ⟨rfl, rfl⟩ (Nat.le_of_ble_eq_true rfl) (FV.mono (fun h1 vc => ?_) vc)
  refine QW.aload_n dX5_read_8 rfl ?_
  refine QW.iconst (0 : Int32) rfl dX5_read_9 ?_
  refine FW.putI dX5_read_10 lfX5_33 sP_7_5 ?_
  refine QW.aload_n dX5_read_13 rfl ?_
  refine QW.iconst (1 : Int32) rfl dX5_read_14 ?_
  refine FW.putI dX5_read_15 lfX5_36 sP_7_3 ?_
  exact QW.sub (by exact ⟨rfl, trivial⟩) vc
theorem vX5_read_18 {g : QG} {K : Int32 → Hp → Prop} {h : Hp} (vc : ((12 : Int32) < (h 7 3) → K (h 7 4) h) ∧ (¬ (12 : Int32) < (h 7 3) → FI g mX5_doLine [.ref 7] h (fun x1 h1 => (¬ x1 = 0 → FV g mX5_nextToken [.ref 7] h1 (fun h2 => ((h2 7 4) < (h2 7 1) → vp_in (h2 7 4) 200 ∧ ((h2 8 ((h2 7 4).toNatClampNeg)) = (59 : Int32) → FW g mX5_read 18 [some (.ref 7), none] [] (q_up h2 7 3 ((h2 7 3) + (1 : Int32))) (q_RI K)) ∧ (¬ (h2 8 ((h2 7 4).toNatClampNeg)) = (59 : Int32) → K (h2 7 4) h2)) ∧ (¬ (h2 7 4) < (h2 7 1) → K (-1 : Int32) h2))) ∧ (x1 = 0 → K (h1 7 4) h1)))) : FW g mX5_read 18 [some (.ref 7), none] [] h (q_RI K) := by
  refine QW.aload_n dX5_read_18 rfl ?_
  refine FW.getI (h 7 3) dX5_read_19 lfX5_36 sI_7_3 rfl ?_
  refine QW.bipush (12 : Int32) rfl dX5_read_22 ?_
  refine QW.icmp_gt 88 dX5_read_24 rfl (fun hc => ?_) (fun hc => ?_)
  · replace vc := vc.1 hc
    refine QW.aload_n dX5_read_88 rfl ?_
    refine FW.getI (h 7 4) dX5_read_89 lfX5_43 sI_7_4 rfl ?_
    exact FW.ret dX5_read_92 rfl vc
  · replace vc := vc.2 hc
    refine QW.aload_n dX5_read_27 rfl ?_
    refine FW.callVi [] [] rfl dX5_read_28 lmX5_39 sC_7 rfl ⟨Nat.le_of_ble_eq_true rfl, Nat.le_of_ble_eq_true rfl⟩ ⟨rfl, rfl⟩ (Nat.le_of_ble_eq_true rfl) (FI.mono (fun x1 h1 vc => ?_) vc)
    refine QW.if_ne 39 dX5_read_31 rfl (fun hc => ?_) (fun hc => ?_)
    · replace vc := vc.1 hc
      refine QW.aload_n dX5_read_39 rfl ?_
      refine FW.callVv [] [] rfl dX5_read_40 lmX5_46 sC_7 rfl ⟨Nat.le_of_ble_eq_true rfl, Nat.le_of_ble_eq_true rfl⟩ ⟨rfl, rfl⟩ (Nat.le_of_ble_eq_true rfl) (FV.mono (fun h2 vc => ?_) vc)
      refine QW.aload_n dX5_read_43 rfl ?_
      refine FW.getI (h2 7 4) dX5_read_44 lfX5_43 sI_7_4 rfl ?_
      refine QW.aload_n dX5_read_47 rfl ?_
      refine FW.getI (h2 7 1) dX5_read_48 lfX5_25 sI_7_1 rfl ?_
      refine QW.icmp_lt 56 dX5_read_51 rfl (fun hc => ?_) (fun hc => ?_)
      · replace vc := vc.1 hc
        refine QW.aload_n dX5_read_56 rfl ?_
        refine FW.getR dX5_read_57 lfX5_9 sR_7_0 ?_
        refine QW.aload_n dX5_read_60 rfl ?_
        refine FW.getI (h2 7 4) dX5_read_61 lfX5_43 sI_7_4 rfl ?_
        refine FW.iald (h2 8 ((h2 7 4).toNatClampNeg)) dX5_read_64 sA_8 vc.1 rfl ?_
        replace vc := vc.2
        refine QW.bipush (59 : Int32) rfl dX5_read_65 ?_
        refine QW.icmp_eq 75 dX5_read_67 rfl (fun hc => ?_) (fun hc => ?_)
        · replace vc := vc.1 hc
          refine QW.aload_n dX5_read_75 rfl ?_
          refine QW.dupr dX5_read_76 ?_
          refine FW.getI (h2 7 3) dX5_read_77 lfX5_36 sI_7_3 rfl ?_
          refine QW.iconst (1 : Int32) rfl dX5_read_80 ?_
          refine QW.iadd dX5_read_81 ?_
          refine FW.putI dX5_read_82 lfX5_36 sP_7_3 ?_
          refine QW.goto 18 dX5_read_85 rfl ?_
          exact vc
        · replace vc := vc.2 hc
          refine QW.aload_n dX5_read_70 rfl ?_
          refine FW.getI (h2 7 4) dX5_read_71 lfX5_43 sI_7_4 rfl ?_
          exact FW.ret dX5_read_74 rfl vc
      · replace vc := vc.2 hc
        refine QW.iconst (-1 : Int32) rfl dX5_read_54 ?_
        exact FW.ret dX5_read_55 rfl vc
    · replace vc := vc.2 hc
      refine QW.aload_n dX5_read_34 rfl ?_
      refine FW.getI (h1 7 4) dX5_read_35 lfX5_43 sI_7_4 rfl ?_
      exact FW.ret dX5_read_38 rfl vc
theorem vX7_fault_0 {g : QG} {K : Int32 → Hp → Prop} {h : Hp} (vc : FI g mX5_read [.ref 7, .ref 1] h (fun x1 h1 => K x1 h1)) : FW g mX7_fault 0 [some (.ref 0)] [] h (q_RI K) := by
  refine QW.aload_n dX7_fault_0 rfl ?_
  refine FW.getR dX7_fault_1 lfX7_19 sR_0_1 ?_
  refine QW.aload_n dX7_fault_4 rfl ?_
  refine FW.getR dX7_fault_5 lfX7_10 sR_0_0 ?_
  refine FW.callVi [.ref 1] [] rfl dX7_fault_8 lmX7_80 sC_7 rfl ⟨Nat.le_of_ble_eq_true rfl, Nat.le_of_ble_eq_true rfl⟩ ⟨rfl, rfl⟩ (Nat.le_of_ble_eq_true rfl) (FI.mono (fun x1 h1 vc => ?_) vc)
  exact FW.ret dX7_fault_11 rfl vc
