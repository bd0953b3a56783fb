theorem vX8_left_0 {g : QG} {K : Int32 → Hp → Prop} {h : Hp} {a1 a2 : Int32} (vc : FI g mX8_isTime [.int a1] h (fun x1 h1 => (x1 = 0 → K (-3 : Int32) h1) ∧ (¬ x1 = 0 → FI g mX8_in [.long a2.toInt64, .long (0 : Int64), .long (1 : Int64)] h1 (fun x2 h2 => (¬ x2 = 0 → FI g mX8_everybody [.ref 44] h2 (fun x3 h3 => FI g mX8_bits [.int x3] h3 (fun x4 h4 => (x4 ≤ (1 : Int32) → FW g mX8_left 49 [some (.ref 44), some (.int a1), some (.int a2), some (.int x3), some (.int (h3 44 7)), some (.int (0 : Int32)), some (.int (0 : Int32)), none] [] h4 (q_RI K)) ∧ (¬ x4 ≤ (1 : Int32) → FW g mX8_left 49 [some (.ref 44), some (.int a1), some (.int a2), some (.int x3), some (.int (h3 44 7)), some (.int (0 : Int32)), some (.int (1 : Int32)), none] [] h4 (q_RI K))))) ∧ (x2 = 0 → K (-3 : Int32) h2))))) : FW g mX8_left 0 [some (.ref 44), some (.int a1), some (.int a2), none, none, none, none, none] [] h (q_RI K) := by
  refine QW.iload_n dX8_left_0 rfl ?_
  refine FW.callSi [.int a1] [] rfl dX8_left_1 lmX8_229 rfl ⟨Nat.le_of_ble_eq_true rfl, Nat.le_of_ble_eq_true rfl⟩ ⟨rfl, rfl⟩ (Nat.le_of_ble_eq_true rfl) (FI.mono (fun x1 h1 vc => ?_) vc)
  refine QW.if_eq 17 dX8_left_4 rfl (fun hc => ?_) (fun hc => ?_)
  · replace vc := vc.1 hc
    refine QW.bipush (-3 : Int32) rfl dX8_left_17 ?_
    exact FW.ret dX8_left_19 rfl vc
  · replace vc := vc.2 hc
    refine QW.iload_n dX8_left_7 rfl ?_
    refine QW.i2l dX8_left_8 ?_
    refine QW.lconst (0 : Int64) rfl dX8_left_9 ?_
    refine QW.lconst (1 : Int64) rfl dX8_left_10 ?_
    refine FW.callSi [.long a2.toInt64, .long (0 : Int64), .long (1 : Int64)] [] rfl dX8_left_11 lmX8_70 rfl ⟨Nat.le_of_ble_eq_true rfl, Nat.le_of_ble_eq_true rfl⟩ ⟨rfl, rfl⟩ (Nat.le_of_ble_eq_true rfl) (FI.mono (fun x2 h2 vc => ?_) vc)
    refine QW.if_ne 20 dX8_left_14 rfl (fun hc => ?_) (fun hc => ?_)
    · replace vc := vc.1 hc
      refine QW.aload_n dX8_left_20 rfl ?_
      refine FW.callVi [] [] rfl dX8_left_21 lmX8_213 sC_44 rfl ⟨Nat.le_of_ble_eq_true rfl, Nat.le_of_ble_eq_true rfl⟩ ⟨rfl, rfl⟩ (Nat.le_of_ble_eq_true rfl) (FI.mono (fun x3 h3 vc => ?_) vc)
      refine QW.istore_n [some (.ref 44), some (.int a1), some (.int a2), some (.int x3), none, none, none, none] dX8_left_24 (by decide) rfl rfl ?_
      refine QW.aload_n dX8_left_25 rfl ?_
      refine FW.getI (h3 44 7) dX8_left_26 lfX8_154 sI_44_7 rfl ?_
      refine QW.istore [some (.ref 44), some (.int a1), some (.int a2), some (.int x3), some (.int (h3 44 7)), none, none, none] dX8_left_29 (by decide) rfl rfl ?_
      refine QW.iconst (0 : Int32) rfl dX8_left_31 ?_
      refine QW.istore [some (.ref 44), some (.int a1), some (.int a2), some (.int x3), some (.int (h3 44 7)), some (.int (0 : Int32)), none, none] dX8_left_32 (by decide) rfl rfl ?_
      refine QW.iload_n dX8_left_34 rfl ?_
      refine FW.callSi [.int x3] [] rfl dX8_left_35 lmX8_219 rfl ⟨Nat.le_of_ble_eq_true rfl, Nat.le_of_ble_eq_true rfl⟩ ⟨rfl, rfl⟩ (Nat.le_of_ble_eq_true rfl) (FI.mono (fun x4 h4 vc => ?_) vc)
      refine QW.iconst (1 : Int32) rfl dX8_left_38 ?_
      refine QW.icmp_le 46 dX8_left_39 rfl (fun hc => ?_) (fun hc => ?_)
      · replace vc := vc.1 hc
        refine QW.iconst (0 : Int32) rfl dX8_left_46 ?_
        refine QW.istore [some (.ref 44), some (.int a1), some (.int a2), some (.int x3), some (.int (h3 44 7)), some (.int (0 : Int32)), some (.int (0 : Int32)), none] dX8_left_47 (by decide) rfl rfl ?_
        exact vc
      · replace vc := vc.2 hc
        refine QW.iconst (1 : Int32) rfl dX8_left_42 ?_
        refine QW.goto 47 dX8_left_43 rfl ?_
        refine QW.istore [some (.ref 44), some (.int a1), some (.int a2), some (.int x3), some (.int (h3 44 7)), some (.int (0 : Int32)), some (.int (1 : Int32)), none] dX8_left_47 (by decide) rfl rfl ?_
        exact vc
    · replace vc := vc.2 hc
      refine QW.bipush (-3 : Int32) rfl dX8_left_17 ?_
      exact FW.ret dX8_left_19 rfl vc
theorem vX8_left_49 {g : QG} {K : Int32 → Hp → Prop} {h : Hp} {a1 a2 a3 a4 a5 a6 : Int32} (vc : (a6 = 0 → (¬ a2 = 0 → K a5 h) ∧ (a2 = 0 → K a3 h)) ∧ (¬ a6 = 0 → FV g mX8_layAts [.ref 44, .int a1] h (fun h1 => FI g mX8_stops [.ref 44, .int a4, .int a3] h1 (fun x2 h2 => FI g mX8_leastOf [.int a4] h2 (fun x3 h3 => (x2 = 0 → FW g mX8_left 49 [some (.ref 44), some (.int a1), some (.int a2), some (.int (a3 &&& (x2 ^^^ (-1 : Int32)))), some (.int (a4 &&& (x3 ^^^ (-1 : Int32)))), some (.int (a5 + (1 : Int32))), some (.int (0 : Int32)), none] [] h3 (q_RI K)) ∧ (¬ x2 = 0 → FI g mX8_bits [.int (a3 &&& (x2 ^^^ (-1 : Int32)))] h3 (fun x4 h4 => (x4 ≤ (1 : Int32) → FW g mX8_left 49 [some (.ref 44), some (.int a1), some (.int a2), some (.int (a3 &&& (x2 ^^^ (-1 : Int32)))), some (.int (a4 &&& (x3 ^^^ (-1 : Int32)))), some (.int (a5 + (1 : Int32))), some (.int (0 : Int32)), none] [] h4 (q_RI K)) ∧ (¬ x4 ≤ (1 : Int32) → FW g mX8_left 49 [some (.ref 44), some (.int a1), some (.int a2), some (.int (a3 &&& (x2 ^^^ (-1 : Int32)))), some (.int (a4 &&& (x3 ^^^ (-1 : Int32)))), some (.int (a5 + (1 : Int32))), some (.int (1 : Int32)), none] [] h4 (q_RI K))))))))) : FW g mX8_left 49 [some (.ref 44), some (.int a1), some (.int a2), some (.int a3), some (.int a4), some (.int a5), some (.int a6), none] [] h (q_RI K) := by
  refine QW.iload dX8_left_49 rfl ?_
  refine QW.if_eq 113 dX8_left_51 rfl (fun hc => ?_) (fun hc => ?_)
  · replace vc := vc.1 hc
    refine QW.iload_n dX8_left_113 rfl ?_
    refine QW.if_ne 121 dX8_left_114 rfl (fun hc => ?_) (fun hc => ?_)
    · replace vc := vc.1 hc
      refine QW.iload dX8_left_121 rfl ?_
      exact FW.ret dX8_left_123 rfl vc
    · replace vc := vc.2 hc
      refine QW.iload_n dX8_left_117 rfl ?_
      refine QW.goto 123 dX8_left_118 rfl ?_
      exact FW.ret dX8_left_123 rfl vc
  · replace vc := vc.2 hc
    refine QW.aload_n dX8_left_54 rfl ?_
    refine QW.iload_n dX8_left_55 rfl ?_
    refine FW.callVv [.int a1] [] rfl dX8_left_56 lmX8_226 sC_44 rfl ⟨Nat.le_of_ble_eq_true rfl, Nat.le_of_ble_eq_true rfl⟩ ⟨rfl, rfl⟩ (Nat.le_of_ble_eq_true rfl) (FV.mono (fun h1 vc => ?_) vc)
    refine QW.aload_n dX8_left_59 rfl ?_
    refine QW.iload dX8_left_60 rfl ?_
    refine QW.iload_n dX8_left_62 rfl ?_
    refine FW.callVi [.int a4, .int a3] [] rfl dX8_left_63 lmX8_216 sC_44 rfl ⟨Nat.le_of_ble_eq_true rfl, Nat.le_of_ble_eq_true rfl⟩ ⟨rfl, rfl⟩ (Nat.le_of_ble_eq_true rfl) (FI.mono (fun x2 h2 vc => ?_) vc)
    refine QW.istore [some (.ref 44), some (.int a1), some (.int a2), some (.int a3), some (.int a4), some (.int a5), some (.int a6), some (.int x2)] dX8_left_66 (by decide) rfl rfl ?_
    refine QW.iinc (a5 + (1 : Int32)) [some (.ref 44), some (.int a1), some (.int a2), some (.int a3), some (.int a4), some (.int (a5 + (1 : Int32))), some (.int a6), some (.int x2)] dX8_left_68 rfl rfl (by decide) rfl rfl ?_
    refine QW.iload_n dX8_left_71 rfl ?_
    refine QW.iload dX8_left_72 rfl ?_
    refine QW.iconst (-1 : Int32) rfl dX8_left_74 ?_
    refine QW.ixor dX8_left_75 ?_
    refine QW.iand dX8_left_76 ?_
    refine QW.istore_n [some (.ref 44), some (.int a1), some (.int a2), some (.int (a3 &&& (x2 ^^^ (-1 : Int32)))), some (.int a4), some (.int (a5 + (1 : Int32))), some (.int a6), some (.int x2)] dX8_left_77 (by decide) rfl rfl ?_
    refine QW.iload dX8_left_78 rfl ?_
    refine QW.iload dX8_left_80 rfl ?_
    refine FW.callSi [.int a4] [.int a4] rfl dX8_left_82 lmX8_259 rfl ⟨Nat.le_of_ble_eq_true rfl, Nat.le_of_ble_eq_true rfl⟩ ⟨rfl, rfl⟩ (Nat.le_of_ble_eq_true rfl) (FI.mono (fun x3 h3 vc => ?_) vc)
    refine QW.iconst (-1 : Int32) rfl dX8_left_85 ?_
    refine QW.ixor dX8_left_86 ?_
    refine QW.iand dX8_left_87 ?_
    refine QW.istore [some (.ref 44), some (.int a1), some (.int a2), some (.int (a3 &&& (x2 ^^^ (-1 : Int32)))), some (.int (a4 &&& (x3 ^^^ (-1 : Int32)))), some (.int (a5 + (1 : Int32))), some (.int a6), some (.int x2)] dX8_left_88 (by decide) rfl rfl ?_
    refine QW.iload dX8_left_90 rfl ?_
    refine QW.if_eq 107 dX8_left_92 rfl (fun hc => ?_) (fun hc => ?_)
    · replace vc := vc.1 hc
      refine QW.iconst (0 : Int32) rfl dX8_left_107 ?_
      refine QW.istore [some (.ref 44), some (.int a1), some (.int a2), some (.int (a3 &&& (x2 ^^^ (-1 : Int32)))), some (.int (a4 &&& (x3 ^^^ (-1 : Int32)))), some (.int (a5 + (1 : Int32))), some (.int (0 : Int32)), some (.int x2)] dX8_left_108 (by decide) rfl rfl ?_
      refine QW.goto 49 dX8_left_110 rfl ?_
      exact QW.sub (by exact ⟨rfl, ⟨rfl, ⟨rfl, ⟨rfl, ⟨rfl, ⟨rfl, ⟨rfl, trivial⟩⟩⟩⟩⟩⟩⟩) vc
    · replace vc := vc.2 hc
      refine QW.iload_n dX8_left_95 rfl ?_
      refine FW.callSi [.int (a3 &&& (x2 ^^^ (-1 : Int32)))] [] rfl dX8_left_96 lmX8_219 rfl ⟨Nat.le_of_ble_eq_true rfl, Nat.le_of_ble_eq_true rfl⟩ ⟨rfl, rfl⟩ (Nat.le_of_ble_eq_true rfl) (FI.mono (fun x4 h4 vc => ?_) vc)
      refine QW.iconst (1 : Int32) rfl dX8_left_99 ?_
      refine QW.icmp_le 107 dX8_left_100 rfl (fun hc => ?_) (fun hc => ?_)
      · replace vc := vc.1 hc
        refine QW.iconst (0 : Int32) rfl dX8_left_107 ?_
        refine QW.istore [some (.ref 44), some (.int a1), some (.int a2), some (.int (a3 &&& (x2 ^^^ (-1 : Int32)))), some (.int (a4 &&& (x3 ^^^ (-1 : Int32)))), some (.int (a5 + (1 : Int32))), some (.int (0 : Int32)), some (.int x2)] dX8_left_108 (by decide) rfl rfl ?_
        refine QW.goto 49 dX8_left_110 rfl ?_
        exact QW.sub (by exact ⟨rfl, ⟨rfl, ⟨rfl, ⟨rfl, ⟨rfl, ⟨rfl, ⟨rfl, trivial⟩⟩⟩⟩⟩⟩⟩) vc
      · replace vc := vc.2 hc
        refine QW.iconst (1 : Int32) rfl dX8_left_103 ?_
        refine QW.goto 108 dX8_left_104 rfl ?_
        refine QW.istore [some (.ref 44), some (.int a1), some (.int a2), some (.int (a3 &&& (x2 ^^^ (-1 : Int32)))), some (.int (a4 &&& (x3 ^^^ (-1 : Int32)))), some (.int (a5 + (1 : Int32))), some (.int (1 : Int32)), some (.int x2)] dX8_left_108 (by decide) rfl rfl ?_
        refine QW.goto 49 dX8_left_110 rfl ?_
        exact QW.sub (by exact ⟨rfl, ⟨rfl, ⟨rfl, ⟨rfl, ⟨rfl, ⟨rfl, ⟨rfl, trivial⟩⟩⟩⟩⟩⟩⟩) vc
theorem vX8_readsLine_0 {g : QG} {K : Int32 → Hp → Prop} {h : Hp} (vc : FI g mX8_wordOf [.ref 44] h (fun x1 h1 => (x1 = (-1 : Int32) → K (0 : Int32) h1) ∧ (¬ x1 = (-1 : Int32) → FI g mX8_isGuestWord [.int x1] h1 (fun x2 h2 => (x2 = 0 → FW g mX8_readsLine 28 [some (.ref 44), some (.int x1), none] [] h2 (q_RI K)) ∧ (¬ x2 = 0 → (¬ (h2 44 19) = (6 : Int32) → FW g mX8_readsLine 28 [some (.ref 44), some (.int x1), none] [] h2 (q_RI K)) ∧ ((h2 44 19) = (6 : Int32) → K (0 : Int32) h2)))))) : FW g mX8_readsLine 0 [some (.ref 44), none, none] [] h (q_RI K) := by
  refine QW.aload_n dX8_readsLine_0 rfl ?_
  refine FW.callVi [] [] rfl dX8_readsLine_1 lmX8_141 sC_44 rfl ⟨Nat.le_of_ble_eq_true rfl, Nat.le_of_ble_eq_true rfl⟩ ⟨rfl, rfl⟩ (Nat.le_of_ble_eq_true rfl) (FI.mono (fun x1 h1 vc => ?_) vc)
  refine QW.istore_n [some (.ref 44), some (.int x1), none] dX8_readsLine_4 (by decide) rfl rfl ?_
  refine QW.iload_n dX8_readsLine_5 rfl ?_
  refine QW.iconst (-1 : Int32) rfl dX8_readsLine_6 ?_
  refine QW.icmp_eq 26 dX8_readsLine_7 rfl (fun hc => ?_) (fun hc => ?_)
  · replace vc := vc.1 hc
    refine QW.iconst (0 : Int32) rfl dX8_readsLine_26 ?_
    exact FW.retZ (Or.inl rfl) dX8_readsLine_27 rfl vc
  · replace vc := vc.2 hc
    refine QW.iload_n dX8_readsLine_10 rfl ?_
    refine FW.callSi [.int x1] [] rfl dX8_readsLine_11 lmX8_144 rfl ⟨Nat.le_of_ble_eq_true rfl, Nat.le_of_ble_eq_true rfl⟩ ⟨rfl, rfl⟩ (Nat.le_of_ble_eq_true rfl) (FI.mono (fun x2 h2 vc => ?_) vc)
    refine QW.if_eq 28 dX8_readsLine_14 rfl (fun hc => ?_) (fun hc => ?_)
    · replace vc := vc.1 hc
      exact vc
    · replace vc := vc.2 hc
      refine QW.aload_n dX8_readsLine_17 rfl ?_
      refine FW.getI (h2 44 19) dX8_readsLine_18 lfX8_148 sI_44_19 rfl ?_
      refine QW.bipush (6 : Int32) rfl dX8_readsLine_21 ?_
      refine QW.icmp_ne 28 dX8_readsLine_23 rfl (fun hc => ?_) (fun hc => ?_)
      · replace vc := vc.1 hc
        exact vc
      · replace vc := vc.2 hc
        refine QW.iconst (0 : Int32) rfl dX8_readsLine_26 ?_
        exact FW.retZ (Or.inl rfl) dX8_readsLine_27 rfl vc
theorem vX8_readsLine_28 {g : QG} {K : Int32 → Hp → Prop} {h : Hp} {a1 : Int32} (vc : FV g mX8_token [.ref 44] h (fun h1 => vp_in ((5 : Int32) * (h1 44 5)) 60 ∧ FI g mX8_readsRest [.ref 44, .int a1] (q_up h1 48 (((5 : Int32) * (h1 44 5)).toNatClampNeg) a1) (fun x2 h2 => (¬ x2 = 0 → vp_in (((5 : Int32) * (h2 44 5)) + (1 : Int32)) 60 ∧ (¬ a1 = 0 → FW g mX8_readsLine 81 [some (.ref 44), some (.int a1), some (.int (h2 48 ((((5 : Int32) * (h2 44 5)) + (1 : Int32)).toNatClampNeg)))] [.int (h2 44 17), .ref 44] h2 (q_RI K)) ∧ (a1 = 0 → FW g mX8_readsLine 81 [some (.ref 44), some (.int a1), some (.int (h2 48 ((((5 : Int32) * (h2 44 5)) + (1 : Int32)).toNatClampNeg)))] [.int (h2 48 ((((5 : Int32) * (h2 44 5)) + (1 : Int32)).toNatClampNeg)), .ref 44] h2 (q_RI K))) ∧ (x2 = 0 → K (0 : Int32) h2)))) : FW g mX8_readsLine 28 [some (.ref 44), some (.int a1), none] [] h (q_RI K) := by
  refine QW.aload_n dX8_readsLine_28 rfl ?_
  refine FW.callVv [] [] rfl dX8_readsLine_29 lmX8_117 sC_44 rfl ⟨Nat.le_of_ble_eq_true rfl, Nat.le_of_ble_eq_true rfl⟩ ⟨rfl, rfl⟩ (Nat.le_of_ble_eq_true rfl) (FV.mono (fun h1 vc => ?_) vc)
  refine QW.aload_n dX8_readsLine_32 rfl ?_
  refine FW.getR dX8_readsLine_33 lfX8_20 sR_44_4 ?_
  refine QW.iconst (5 : Int32) rfl dX8_readsLine_36 ?_
  refine QW.aload_n dX8_readsLine_37 rfl ?_
  refine FW.getI (h1 44 5) dX8_readsLine_38 lfX8_114 sI_44_5 rfl ?_
  refine QW.imul dX8_readsLine_41 ?_
  refine QW.iload_n dX8_readsLine_42 rfl ?_
  refine FW.iast dX8_readsLine_43 sA_48 vc.1 ?_
  replace vc := vc.2
  refine QW.aload_n dX8_readsLine_44 rfl ?_
  refine QW.iload_n dX8_readsLine_45 rfl ?_
  refine FW.callVi [.int a1] [] rfl dX8_readsLine_46 lmX8_151 sC_44 rfl ⟨Nat.le_of_ble_eq_true rfl, Nat.le_of_ble_eq_true rfl⟩ ⟨rfl, rfl⟩ (Nat.le_of_ble_eq_true rfl) (FI.mono (fun x2 h2 vc => ?_) vc)
  refine QW.if_ne 54 dX8_readsLine_49 rfl (fun hc => ?_) (fun hc => ?_)
  · replace vc := vc.1 hc
    refine QW.aload_n dX8_readsLine_54 rfl ?_
    refine FW.getR dX8_readsLine_55 lfX8_20 sR_44_4 ?_
    refine QW.iconst (5 : Int32) rfl dX8_readsLine_58 ?_
    refine QW.aload_n dX8_readsLine_59 rfl ?_
    refine FW.getI (h2 44 5) dX8_readsLine_60 lfX8_114 sI_44_5 rfl ?_
    refine QW.imul dX8_readsLine_63 ?_
    refine QW.iconst (1 : Int32) rfl dX8_readsLine_64 ?_
    refine QW.iadd dX8_readsLine_65 ?_
    refine FW.iald (h2 48 ((((5 : Int32) * (h2 44 5)) + (1 : Int32)).toNatClampNeg)) dX8_readsLine_66 sA_48 vc.1 rfl ?_
    replace vc := vc.2
    refine QW.istore_n [some (.ref 44), some (.int a1), some (.int (h2 48 ((((5 : Int32) * (h2 44 5)) + (1 : Int32)).toNatClampNeg)))] dX8_readsLine_67 (by decide) rfl rfl ?_
    refine QW.aload_n dX8_readsLine_68 rfl ?_
    refine QW.iload_n dX8_readsLine_69 rfl ?_
    refine QW.if_ne 77 dX8_readsLine_70 rfl (fun hc => ?_) (fun hc => ?_)
    · replace vc := vc.1 hc
      refine QW.aload_n dX8_readsLine_77 rfl ?_
      refine FW.getI (h2 44 17) dX8_readsLine_78 lfX8_120 sI_44_17 rfl ?_
      exact vc
    · replace vc := vc.2 hc
      refine QW.iload_n dX8_readsLine_73 rfl ?_
      refine QW.goto 81 dX8_readsLine_74 rfl ?_
      exact vc
  · replace vc := vc.2 hc
    refine QW.iconst (0 : Int32) rfl dX8_readsLine_52 ?_
    exact FW.retZ (Or.inl rfl) dX8_readsLine_53 rfl vc
theorem vX8_readsLine_81 {g : QG} {K : Int32 → Hp → Prop} {h : Hp} {a1 a2 s1 : Int32} (vc : (¬ a1 = 0 → (a1 = (1 : Int32) → FW g mX8_readsLine 118 [some (.ref 44), some (.int a1), none] [.int ((h 44 18) ^^^ ((1 : Int32) <<< (a2 &&& 31))), .ref 44] (q_up h 44 17 s1) (q_RI K)) ∧ (¬ a1 = (1 : Int32) → (¬ a1 = (2 : Int32) → FW g mX8_readsLine 118 [some (.ref 44), some (.int a1), none] [.int (h 44 18), .ref 44] (q_up h 44 17 s1) (q_RI K)) ∧ (a1 = (2 : Int32) → FW g mX8_readsLine 118 [some (.ref 44), some (.int a1), none] [.int ((h 44 18) ^^^ ((1 : Int32) <<< (a2 &&& 31))), .ref 44] (q_up h 44 17 s1) (q_RI K)))) ∧ (a1 = 0 → FW g mX8_readsLine 118 [some (.ref 44), some (.int a1), none] [.int (0 : Int32), .ref 44] (q_up h 44 17 s1) (q_RI K))) : FW g mX8_readsLine 81 [some (.ref 44), some (.int a1), some (.int a2)] [.int s1, .ref 44] h (q_RI K) := by
  refine FW.putI dX8_readsLine_81 lfX8_120 sP_44_17 ?_
  refine QW.aload_n dX8_readsLine_84 rfl ?_
  refine QW.iload_n dX8_readsLine_85 rfl ?_
  refine QW.if_ne 93 dX8_readsLine_86 rfl (fun hc => ?_) (fun hc => ?_)
  · replace vc := vc.1 hc
    refine QW.iload_n dX8_readsLine_93 rfl ?_
    refine QW.iconst (1 : Int32) rfl dX8_readsLine_94 ?_
    refine QW.icmp_eq 103 dX8_readsLine_95 rfl (fun hc => ?_) (fun hc => ?_)
    · replace vc := vc.1 hc
      refine QW.aload_n dX8_readsLine_103 rfl ?_
      refine FW.getI (h 44 18) dX8_readsLine_104 lfX8_127 sI_44_18 rfl ?_
      refine QW.iconst (1 : Int32) rfl dX8_readsLine_107 ?_
      refine QW.iload_n dX8_readsLine_108 rfl ?_
      refine QW.ishl dX8_readsLine_109 ?_
      refine QW.ixor dX8_readsLine_110 ?_
      refine QW.goto 118 dX8_readsLine_111 rfl ?_
      exact QW.sub (by exact ⟨rfl, ⟨rfl, trivial⟩⟩) vc
    · replace vc := vc.2 hc
      refine QW.iload_n dX8_readsLine_98 rfl ?_
      refine QW.iconst (2 : Int32) rfl dX8_readsLine_99 ?_
      refine QW.icmp_ne 114 dX8_readsLine_100 rfl (fun hc => ?_) (fun hc => ?_)
      · replace vc := vc.1 hc
        refine QW.aload_n dX8_readsLine_114 rfl ?_
        refine FW.getI (h 44 18) dX8_readsLine_115 lfX8_127 sI_44_18 rfl ?_
        exact QW.sub (by exact ⟨rfl, ⟨rfl, trivial⟩⟩) vc
      · replace vc := vc.2 hc
        refine QW.aload_n dX8_readsLine_103 rfl ?_
        refine FW.getI (h 44 18) dX8_readsLine_104 lfX8_127 sI_44_18 rfl ?_
        refine QW.iconst (1 : Int32) rfl dX8_readsLine_107 ?_
        refine QW.iload_n dX8_readsLine_108 rfl ?_
        refine QW.ishl dX8_readsLine_109 ?_
        refine QW.ixor dX8_readsLine_110 ?_
        refine QW.goto 118 dX8_readsLine_111 rfl ?_
        exact QW.sub (by exact ⟨rfl, ⟨rfl, trivial⟩⟩) vc
  · replace vc := vc.2 hc
    refine QW.iconst (0 : Int32) rfl dX8_readsLine_89 ?_
    refine QW.goto 118 dX8_readsLine_90 rfl ?_
    exact QW.sub (by exact ⟨rfl, ⟨rfl, trivial⟩⟩) vc
theorem vX8_readsLine_118 {g : QG} {K : Int32 → Hp → Prop} {h : Hp} {a1 s1 : Int32} (vc : (a1 = 0 → K (1 : Int32) (q_up (q_up (q_up h 44 18 s1) 44 19 (0 : Int32)) 44 5 ((h 44 5) + (1 : Int32)))) ∧ (¬ a1 = 0 → (¬ a1 = (7 : Int32) → FI g mX8_isGuestWord [.int a1] (q_up h 44 18 s1) (fun x1 h1 => (x1 = 0 → K (1 : Int32) (q_up (q_up h1 44 19 (h1 44 19)) 44 5 ((h1 44 5) + (1 : Int32)))) ∧ (¬ x1 = 0 → K (1 : Int32) (q_up (q_up h1 44 19 ((h1 44 19) + (1 : Int32))) 44 5 ((h1 44 5) + (1 : Int32)))))) ∧ (a1 = (7 : Int32) → K (1 : Int32) (q_up (q_up (q_up h 44 18 s1) 44 19 (0 : Int32)) 44 5 ((h 44 5) + (1 : Int32)))))) : FW g mX8_readsLine 118 [some (.ref 44), some (.int a1), none] [.int s1, .ref 44] h (q_RI K) := by
  refine FW.putI dX8_readsLine_118 lfX8_127 sP_44_18 ?_
  refine QW.aload_n dX8_readsLine_121 rfl ?_
  refine QW.iload_n dX8_readsLine_122 rfl ?_
  refine QW.if_eq 132 dX8_readsLine_123 rfl (fun hc => ?_) (fun hc => ?_)
  · replace vc := vc.1 hc
    refine QW.iconst (0 : Int32) rfl dX8_readsLine_132 ?_
    refine QW.goto 156 dX8_readsLine_133 rfl ?_
    refine FW.putI dX8_readsLine_156 lfX8_148 sP_44_19 ?_
    refine QW.aload_n dX8_readsLine_159 rfl ?_
    refine QW.dupr dX8_readsLine_160 ?_
    refine FW.getI (h 44 5) dX8_readsLine_161 lfX8_114 sI_44_5 rfl ?_
    refine QW.iconst (1 : Int32) rfl dX8_readsLine_164 ?_
    refine QW.iadd dX8_readsLine_165 ?_
    refine FW.putI dX8_readsLine_166 lfX8_114 sP_44_5 ?_
    refine QW.iconst (1 : Int32) rfl dX8_readsLine_169 ?_
    exact FW.retZ (Or.inr rfl) dX8_readsLine_170 rfl vc
  · replace vc := vc.2 hc
    refine QW.iload_n dX8_readsLine_126 rfl ?_
    refine QW.bipush (7 : Int32) rfl dX8_readsLine_127 ?_
    refine QW.icmp_ne 136 dX8_readsLine_129 rfl (fun hc => ?_) (fun hc => ?_)
    · replace vc := vc.1 hc
      refine QW.iload_n dX8_readsLine_136 rfl ?_
      refine FW.callSi [.int a1] [.ref 44] rfl dX8_readsLine_137 lmX8_144 rfl ⟨Nat.le_of_ble_eq_true rfl, Nat.le_of_ble_eq_true rfl⟩ ⟨rfl, rfl⟩ (Nat.le_of_ble_eq_true rfl) (FI.mono (fun x1 h1 vc => ?_) vc)
      refine QW.if_eq 152 dX8_readsLine_140 rfl (fun hc => ?_) (fun hc => ?_)
      · replace vc := vc.1 hc
        refine QW.aload_n dX8_readsLine_152 rfl ?_
        refine FW.getI (h1 44 19) dX8_readsLine_153 lfX8_148 sI_44_19 rfl ?_
        refine FW.putI dX8_readsLine_156 lfX8_148 sP_44_19 ?_
        refine QW.aload_n dX8_readsLine_159 rfl ?_
        refine QW.dupr dX8_readsLine_160 ?_
        refine FW.getI (h1 44 5) dX8_readsLine_161 lfX8_114 sI_44_5 rfl ?_
        refine QW.iconst (1 : Int32) rfl dX8_readsLine_164 ?_
        refine QW.iadd dX8_readsLine_165 ?_
        refine FW.putI dX8_readsLine_166 lfX8_114 sP_44_5 ?_
        refine QW.iconst (1 : Int32) rfl dX8_readsLine_169 ?_
        exact FW.retZ (Or.inr rfl) dX8_readsLine_170 rfl vc
      · replace vc := vc.2 hc
        refine QW.aload_n dX8_readsLine_143 rfl ?_
        refine FW.getI (h1 44 19) dX8_readsLine_144 lfX8_148 sI_44_19 rfl ?_
        refine QW.iconst (1 : Int32) rfl dX8_readsLine_147 ?_
        refine QW.iadd dX8_readsLine_148 ?_
        refine QW.goto 156 dX8_readsLine_149 rfl ?_
        refine FW.putI dX8_readsLine_156 lfX8_148 sP_44_19 ?_
        refine QW.aload_n dX8_readsLine_159 rfl ?_
        refine QW.dupr dX8_readsLine_160 ?_
        refine FW.getI (h1 44 5) dX8_readsLine_161 lfX8_114 sI_44_5 rfl ?_
        refine QW.iconst (1 : Int32) rfl dX8_readsLine_164 ?_
        refine QW.iadd dX8_readsLine_165 ?_
        refine FW.putI dX8_readsLine_166 lfX8_114 sP_44_5 ?_
        refine QW.iconst (1 : Int32) rfl dX8_readsLine_169 ?_
        exact FW.retZ (Or.inr rfl) dX8_readsLine_170 rfl vc
    · replace vc := vc.2 hc
      refine QW.iconst (0 : Int32) rfl dX8_readsLine_132 ?_
      refine QW.goto 156 dX8_readsLine_133 rfl ?_
      refine FW.putI dX8_readsLine_156 lfX8_148 sP_44_19 ?_
      refine QW.aload_n dX8_readsLine_159 rfl ?_
      refine QW.dupr dX8_readsLine_160 ?_
      refine FW.getI (h 44 5) dX8_readsLine_161 lfX8_114 sI_44_5 rfl ?_
      refine QW.iconst (1 : Int32) rfl dX8_readsLine_164 ?_
      refine QW.iadd dX8_readsLine_165 ?_
      refine FW.putI dX8_readsLine_166 lfX8_114 sP_44_5 ?_
      refine QW.iconst (1 : Int32) rfl dX8_readsLine_169 ?_
      exact FW.retZ (Or.inr rfl) dX8_readsLine_170 rfl vc
theorem vX2_stoodAt_0 {g : QG} {K : Int32 → Hp → Prop} {h : Hp} {a1 : Int32} (vc : FV g mX2_goTo [.ref 20, .int a1] h (fun h1 => FI g mX3_settle [.ref 16, .int (h1 20 5), .int (h1 20 6)] h1 (fun x2 h2 => K x2 h2))) : FW g mX2_stoodAt 0 [some (.ref 20), some (.int a1)] [] h (q_RI K) := by
  refine QW.aload_n dX2_stoodAt_0 rfl ?_
  refine QW.iload_n dX2_stoodAt_1 rfl ?_
  refine FW.callVv [.int a1] [] rfl dX2_stoodAt_2 lmX2_51 sC_20 rfl ⟨Nat.le_of_ble_eq_true rfl, Nat.le_of_ble_eq_true rfl⟩ ⟨rfl, rfl⟩ (Nat.le_of_ble_eq_true rfl) (FV.mono (fun h1 vc => ?_) vc)
  refine QW.aload_n dX2_stoodAt_5 rfl ?_
  refine FW.getR dX2_stoodAt_6 lfX2_25 sR_20_1 ?_
  refine QW.aload_n dX2_stoodAt_9 rfl ?_
  refine FW.getI (h1 20 5) dX2_stoodAt_10 lfX2_43 sI_20_5 rfl ?_
  refine QW.aload_n dX2_stoodAt_13 rfl ?_
  refine FW.getI (h1 20 6) dX2_stoodAt_14 lfX2_50 sI_20_6 rfl ?_
  refine FW.callVi [.int (h1 20 5), .int (h1 20 6)] [] rfl dX2_stoodAt_17 lmX2_55 sC_16 rfl ⟨Nat.le_of_ble_eq_true rfl, Nat.le_of_ble_eq_true rfl⟩ ⟨rfl, rfl⟩ (Nat.le_of_ble_eq_true rfl) (FI.mono (fun x2 h2 vc => ?_) vc)
  exact FW.ret dX2_stoodAt_20 rfl vc
theorem vX8_standingAt_0 {g : QG} {K : Int32 → Hp → Prop} {h : Hp} {a1 : Int32} (vc : FV g mX8_layAts [.ref 44, .int a1] h (fun h1 => FI g mX8_everybody [.ref 44] h1 (fun x2 h2 => FI g mX8_stops [.ref 44, .int (h1 44 7), .int x2] h2 (fun x3 h3 => K x3 h3)))) : FW g mX8_standingAt 0 [some (.ref 44), some (.int a1)] [] h (q_RI K) := by
  refine QW.aload_n dX8_standingAt_0 rfl ?_
  refine QW.iload_n dX8_standingAt_1 rfl ?_
  refine FW.callVv [.int a1] [] rfl dX8_standingAt_2 lmX8_226 sC_44 rfl ⟨Nat.le_of_ble_eq_true rfl, Nat.le_of_ble_eq_true rfl⟩ ⟨rfl, rfl⟩ (Nat.le_of_ble_eq_true rfl) (FV.mono (fun h1 vc => ?_) vc)
  refine QW.aload_n dX8_standingAt_5 rfl ?_
  refine QW.aload_n dX8_standingAt_6 rfl ?_
  refine FW.getI (h1 44 7) dX8_standingAt_7 lfX8_154 sI_44_7 rfl ?_
  refine QW.aload_n dX8_standingAt_10 rfl ?_
  refine FW.callVi [] [.int (h1 44 7), .ref 44] rfl dX8_standingAt_11 lmX8_213 sC_44 rfl ⟨Nat.le_of_ble_eq_true rfl, Nat.le_of_ble_eq_true rfl⟩ ⟨rfl, rfl⟩ (Nat.le_of_ble_eq_true rfl) (FI.mono (fun x2 h2 vc => ?_) vc)
  refine FW.callVi [.int (h1 44 7), .int x2] [] rfl dX8_standingAt_14 lmX8_216 sC_44 rfl ⟨Nat.le_of_ble_eq_true rfl, Nat.le_of_ble_eq_true rfl⟩ ⟨rfl, rfl⟩ (Nat.le_of_ble_eq_true rfl) (FI.mono (fun x3 h3 vc => ?_) vc)
  exact FW.ret dX8_standingAt_17 rfl vc
theorem vX2_tally_0 {g : QG} {K : Hp → Prop} {h : Hp} {a1 a2 : Int32} (vc : FV g mJ7_fill_53178 [.ref 23, .int (0 : Int32)] h (fun h1 => FW g mX2_tally 10 [some (.ref 20), some (.int a1), some (.int a2), some (.int (0 : Int32)), none] [] h1 (q_RV K))) : FW g mX2_tally 0 [some (.ref 20), some (.int a1), some (.int a2), none, none] [] h (q_RV K) := by
  refine QW.aload_n dX2_tally_0 rfl ?_
  refine FW.getR dX2_tally_1 lfX2_18 sR_20_4 ?_
  refine QW.iconst (0 : Int32) rfl dX2_tally_4 ?_
  refine FW.callSv [.ref 23, .int (0 : Int32)] [] rfl dX2_tally_5 lmX2_74 rfl ⟨Nat.le_of_ble_eq_true rfl, Nat.le_of_ble_eq_true rfl⟩ ⟨rfl, rfl⟩ (Nat.le_of_ble_eq_true rfl) (FV.mono (fun h1 vc => ?_) vc)
  refine QW.iconst (0 : Int32) rfl dX2_tally_8 ?_
  refine QW.istore_n [some (.ref 20), some (.int a1), some (.int a2), some (.int (0 : Int32)), none] dX2_tally_9 (by decide) rfl rfl ?_
  exact vc
theorem vX2_tally_10 {g : QG} {K : Hp → Prop} {h : Hp} {a1 a2 a3 : Int32} (vc : ((h 1 0) ≤ a3 → K h) ∧ (¬ (h 1 0) ≤ a3 → FI g mX2_minutesLike [.ref 20, .int a3, .int a1, .int a2] h (fun x1 h1 => (x1 ≤ 0 → FW g mX2_tally 10 [some (.ref 20), some (.int a1), some (.int a2), some (.int (a3 + (1 : Int32))), none] [] h1 (q_RV K)) ∧ (¬ x1 ≤ 0 → FV g mX2_goTo [.ref 20, .int a3] h1 (fun h2 => FI g mX3_settle [.ref 16, .int (h2 20 5), .int (h2 20 6)] h2 (fun x3 h3 => FV g mX2_addTimes [.ref 20, .int x3, .int x1] h3 (fun h4 => FW g mX2_tally 10 [some (.ref 20), some (.int a1), some (.int a2), some (.int (a3 + (1 : Int32))), none] [] h4 (q_RV K)))))))) : FW g mX2_tally 10 [some (.ref 20), some (.int a1), some (.int a2), some (.int a3), none] [] h (q_RV K) := by
  refine QW.iload_n dX2_tally_10 rfl ?_
  refine QW.aload_n dX2_tally_11 rfl ?_
  refine FW.getR dX2_tally_12 lfX2_21 sR_20_0 ?_
  refine FW.getI (h 1 0) dX2_tally_15 lfX2_80 sI_1_0 rfl ?_
  refine QW.icmp_ge 67 dX2_tally_18 rfl (fun hc => ?_) (fun hc => ?_)
  · replace vc := vc.1 hc
    exact FW.retV dX2_tally_67 rfl vc
  · replace vc := vc.2 hc
    refine QW.aload_n dX2_tally_21 rfl ?_
    refine QW.iload_n dX2_tally_22 rfl ?_
    refine QW.iload_n dX2_tally_23 rfl ?_
    refine QW.iload_n dX2_tally_24 rfl ?_
    refine FW.callVi [.int a3, .int a1, .int a2] [] rfl dX2_tally_25 lmX2_83 sC_20 rfl ⟨Nat.le_of_ble_eq_true rfl, Nat.le_of_ble_eq_true rfl⟩ ⟨rfl, rfl⟩ (Nat.le_of_ble_eq_true rfl) (FI.mono (fun x1 h1 vc => ?_) vc)
    refine QW.istore [some (.ref 20), some (.int a1), some (.int a2), some (.int a3), some (.int x1)] dX2_tally_28 (by decide) rfl rfl ?_
    refine QW.iload dX2_tally_30 rfl ?_
    refine QW.if_le 61 dX2_tally_32 rfl (fun hc => ?_) (fun hc => ?_)
    · replace vc := vc.1 hc
      refine QW.iinc (a3 + (1 : Int32)) [some (.ref 20), some (.int a1), some (.int a2), some (.int (a3 + (1 : Int32))), some (.int x1)] dX2_tally_61 rfl rfl (by decide) rfl rfl ?_
      refine QW.goto 10 dX2_tally_64 rfl ?_
      exact QW.sub (by exact ⟨rfl, ⟨rfl, ⟨rfl, ⟨rfl, trivial⟩⟩⟩⟩) vc
    · replace vc := vc.2 hc
      refine QW.aload_n dX2_tally_35 rfl ?_
      refine QW.iload_n dX2_tally_36 rfl ?_
      refine FW.callVv [.int a3] [] rfl dX2_tally_37 lmX2_51 sC_20 rfl ⟨Nat.le_of_ble_eq_true rfl, Nat.le_of_ble_eq_true rfl⟩ ⟨rfl, rfl⟩ (Nat.le_of_ble_eq_true rfl) (FV.mono (fun h2 vc => ?_) vc)
      refine QW.aload_n dX2_tally_40 rfl ?_
      refine QW.aload_n dX2_tally_41 rfl ?_
      refine FW.getR dX2_tally_42 lfX2_25 sR_20_1 ?_
      refine QW.aload_n dX2_tally_45 rfl ?_
      refine FW.getI (h2 20 5) dX2_tally_46 lfX2_43 sI_20_5 rfl ?_
      refine QW.aload_n dX2_tally_49 rfl ?_
      refine FW.getI (h2 20 6) dX2_tally_50 lfX2_50 sI_20_6 rfl ?_
      refine FW.callVi [.int (h2 20 5), .int (h2 20 6)] [.ref 20] rfl dX2_tally_53 lmX2_55 sC_16 rfl ⟨Nat.le_of_ble_eq_true rfl, Nat.le_of_ble_eq_true rfl⟩ ⟨rfl, rfl⟩ (Nat.le_of_ble_eq_true rfl) (FI.mono (fun x3 h3 vc => ?_) vc)
      refine QW.iload dX2_tally_56 rfl ?_
      refine FW.callVv [.int x3, .int x1] [] rfl dX2_tally_58 lmX2_86 sC_20 rfl ⟨Nat.le_of_ble_eq_true rfl, Nat.le_of_ble_eq_true rfl⟩ ⟨rfl, rfl⟩ (Nat.le_of_ble_eq_true rfl) (FV.mono (fun h4 vc => ?_) vc)
      refine QW.iinc (a3 + (1 : Int32)) [some (.ref 20), some (.int a1), some (.int a2), some (.int (a3 + (1 : Int32))), some (.int x1)] dX2_tally_61 rfl rfl (by decide) rfl rfl ?_
      refine QW.goto 10 dX2_tally_64 rfl ?_
      exact QW.sub (by exact ⟨rfl, ⟨rfl, ⟨rfl, ⟨rfl, trivial⟩⟩⟩⟩) vc
theorem vX8_apart_0 {g : QG} {K : Int32 → Hp → Prop} {h : Hp} {a1 a2 a3 : Int32} (vc : FW g mX8_apart 3 [some (.ref 44), some (.int a1), some (.int a2), some (.int a3), some (.int (0 : Int32)), none, none] [] h (q_RI K)) : FW g mX8_apart 0 [some (.ref 44), some (.int a1), some (.int a2), some (.int a3), none, none, none] [] h (q_RI K) := by
  refine QW.iconst (0 : Int32) rfl dX8_apart_0 ?_
  refine QW.istore [some (.ref 44), some (.int a1), some (.int a2), some (.int a3), some (.int (0 : Int32)), none, none] dX8_apart_1 (by decide) rfl rfl ?_
  exact vc
theorem vX8_apart_3 {g : QG} {K : Int32 → Hp → Prop} {h : Hp} {a1 a2 a3 a4 : Int32} (vc : ((6 : Int32) ≤ a4 → FW g mX8_apart 27 [some (.ref 44), some (.int a1), none, some (.int a3), some (.int a2), none, none] [] h (q_RI K)) ∧ (¬ (6 : Int32) ≤ a4 → vp_in a4 6 ∧ FW g mX8_apart 3 [some (.ref 44), some (.int a1), some (.int a2), some (.int a3), some (.int (a4 + (1 : Int32))), none, none] [] (q_up h 59 a4.toNatClampNeg (0 : Int32)) (q_RI K))) : FW g mX8_apart 3 [some (.ref 44), some (.int a1), some (.int a2), some (.int a3), some (.int a4), none, none] [] h (q_RI K) := by
  refine QW.iload dX8_apart_3 rfl ?_
  refine QW.bipush (6 : Int32) rfl dX8_apart_5 ?_
  refine QW.icmp_ge 24 dX8_apart_7 rfl (fun hc => ?_) (fun hc => ?_)
  · replace vc := vc.1 hc
    refine QW.iload_n dX8_apart_24 rfl ?_
    refine QW.istore [some (.ref 44), some (.int a1), some (.int a2), some (.int a3), some (.int a2), none, none] dX8_apart_25 (by decide) rfl rfl ?_
    exact QW.sub (by exact ⟨rfl, ⟨rfl, ⟨rfl, ⟨rfl, trivial⟩⟩⟩⟩) vc
  · replace vc := vc.2 hc
    refine QW.aload_n dX8_apart_10 rfl ?_
    refine FW.getR dX8_apart_11 lfX8_57 sR_44_28 ?_
    refine QW.iload dX8_apart_14 rfl ?_
    refine QW.iconst (0 : Int32) rfl dX8_apart_16 ?_
    refine FW.iast dX8_apart_17 sA_59 vc.1 ?_
    replace vc := vc.2
    refine QW.iinc (a4 + (1 : Int32)) [some (.ref 44), some (.int a1), some (.int a2), some (.int a3), some (.int (a4 + (1 : Int32))), none, none] dX8_apart_18 rfl rfl (by decide) rfl rfl ?_
    refine QW.goto 3 dX8_apart_21 rfl ?_
    exact vc
theorem vX8_apart_27 {g : QG} {K : Int32 → Hp → Prop} {h : Hp} {a1 a3 a4 : Int32} (vc : (a3 < a4 → FW g mX8_apart 102 [some (.ref 44), none, none, none, some (.int (999 : Int32)), some (.int (0 : Int32)), some (.int (0 : Int32))] [] h (q_RI K)) ∧ (¬ a3 < a4 → FV g mX8_layAts [.ref 44, .int a4] h (fun h1 => FI g mX8_everybody [.ref 44] h1 (fun x2 h2 => FI g mX8_stops [.ref 44, .int a1, .int x2] h2 (fun x3 h3 => FW g mX8_apart 53 [some (.ref 44), some (.int a1), none, some (.int a3), some (.int a4), some (.int x3), some (.int (0 : Int32))] [] h3 (q_RI K)))))) : FW g mX8_apart 27 [some (.ref 44), some (.int a1), none, some (.int a3), some (.int a4), none, none] [] h (q_RI K) := by
  refine QW.iload dX8_apart_27 rfl ?_
  refine QW.iload_n dX8_apart_29 rfl ?_
  refine QW.icmp_gt 91 dX8_apart_30 rfl (fun hc => ?_) (fun hc => ?_)
  · replace vc := vc.1 hc
    refine QW.sipush (999 : Int32) rfl dX8_apart_91 ?_
    refine QW.istore [some (.ref 44), some (.int a1), none, some (.int a3), some (.int (999 : Int32)), none, none] dX8_apart_94 (by decide) rfl rfl ?_
    refine QW.iconst (0 : Int32) rfl dX8_apart_96 ?_
    refine QW.istore [some (.ref 44), some (.int a1), none, some (.int a3), some (.int (999 : Int32)), some (.int (0 : Int32)), none] dX8_apart_97 (by decide) rfl rfl ?_
    refine QW.iconst (0 : Int32) rfl dX8_apart_99 ?_
    refine QW.istore [some (.ref 44), some (.int a1), none, some (.int a3), some (.int (999 : Int32)), some (.int (0 : Int32)), some (.int (0 : Int32))] dX8_apart_100 (by decide) rfl rfl ?_
    exact QW.sub (by exact ⟨rfl, ⟨rfl, ⟨rfl, ⟨rfl, trivial⟩⟩⟩⟩) vc
  · replace vc := vc.2 hc
    refine QW.aload_n dX8_apart_33 rfl ?_
    refine QW.iload dX8_apart_34 rfl ?_
    refine FW.callVv [.int a4] [] rfl dX8_apart_36 lmX8_226 sC_44 rfl ⟨Nat.le_of_ble_eq_true rfl, Nat.le_of_ble_eq_true rfl⟩ ⟨rfl, rfl⟩ (Nat.le_of_ble_eq_true rfl) (FV.mono (fun h1 vc => ?_) vc)
    refine QW.aload_n dX8_apart_39 rfl ?_
    refine QW.iload_n dX8_apart_40 rfl ?_
    refine QW.aload_n dX8_apart_41 rfl ?_
    refine FW.callVi [] [.int a1, .ref 44] rfl dX8_apart_42 lmX8_213 sC_44 rfl ⟨Nat.le_of_ble_eq_true rfl, Nat.le_of_ble_eq_true rfl⟩ ⟨rfl, rfl⟩ (Nat.le_of_ble_eq_true rfl) (FI.mono (fun x2 h2 vc => ?_) vc)
    refine FW.callVi [.int a1, .int x2] [] rfl dX8_apart_45 lmX8_216 sC_44 rfl ⟨Nat.le_of_ble_eq_true rfl, Nat.le_of_ble_eq_true rfl⟩ ⟨rfl, rfl⟩ (Nat.le_of_ble_eq_true rfl) (FI.mono (fun x3 h3 vc => ?_) vc)
    refine QW.istore [some (.ref 44), some (.int a1), none, some (.int a3), some (.int a4), some (.int x3), none] dX8_apart_48 (by decide) rfl rfl ?_
    refine QW.iconst (0 : Int32) rfl dX8_apart_50 ?_
    refine QW.istore [some (.ref 44), some (.int a1), none, some (.int a3), some (.int a4), some (.int x3), some (.int (0 : Int32))] dX8_apart_51 (by decide) rfl rfl ?_
    exact vc
theorem vX8_apart_53 {g : QG} {K : Int32 → Hp → Prop} {h : Hp} {a1 a3 a4 a5 a6 : Int32} (vc : ((h 44 13) ≤ a6 → FW g mX8_apart 27 [some (.ref 44), some (.int a1), none, some (.int a3), some (.int (a4 + (1 : Int32))), none, none] [] h (q_RI K)) ∧ (¬ (h 44 13) ≤ a6 → vp_in a6 6 ∧ vp_in a6 6 ∧ FW g mX8_apart 53 [some (.ref 44), some (.int a1), none, some (.int a3), some (.int a4), some (.int a5), some (.int (a6 + (1 : Int32)))] [] (q_up h 59 a6.toNatClampNeg ((h 59 a6.toNatClampNeg) + ((a5 >>> (a6 &&& 31)) &&& (1 : Int32)))) (q_RI K))) : FW g mX8_apart 53 [some (.ref 44), some (.int a1), none, some (.int a3), some (.int a4), some (.int a5), some (.int a6)] [] h (q_RI K) := by
  refine QW.iload dX8_apart_53 rfl ?_
  refine QW.aload_n dX8_apart_55 rfl ?_
  refine FW.getI (h 44 13) dX8_apart_56 lfX8_74 sI_44_13 rfl ?_
  refine QW.icmp_ge 85 dX8_apart_59 rfl (fun hc => ?_) (fun hc => ?_)
  · replace vc := vc.1 hc
    refine QW.iinc (a4 + (1 : Int32)) [some (.ref 44), some (.int a1), none, some (.int a3), some (.int (a4 + (1 : Int32))), some (.int a5), some (.int a6)] dX8_apart_85 rfl rfl (by decide) rfl rfl ?_
    refine QW.goto 27 dX8_apart_88 rfl ?_
    exact QW.sub (by exact ⟨rfl, ⟨rfl, ⟨rfl, ⟨rfl, trivial⟩⟩⟩⟩) vc
  · replace vc := vc.2 hc
    refine QW.aload_n dX8_apart_62 rfl ?_
    refine FW.getR dX8_apart_63 lfX8_57 sR_44_28 ?_
    refine QW.iload dX8_apart_66 rfl ?_
    refine QW.dup2ir dX8_apart_68 ?_
    refine FW.iald (h 59 a6.toNatClampNeg) dX8_apart_69 sA_59 vc.1 rfl ?_
    replace vc := vc.2
    refine QW.iload dX8_apart_70 rfl ?_
    refine QW.iload dX8_apart_72 rfl ?_
    refine QW.ishr dX8_apart_74 ?_
    refine QW.iconst (1 : Int32) rfl dX8_apart_75 ?_
    refine QW.iand dX8_apart_76 ?_
    refine QW.iadd dX8_apart_77 ?_
    refine FW.iast dX8_apart_78 sA_59 vc.1 ?_
    replace vc := vc.2
    refine QW.iinc (a6 + (1 : Int32)) [some (.ref 44), some (.int a1), none, some (.int a3), some (.int a4), some (.int a5), some (.int (a6 + (1 : Int32)))] dX8_apart_79 rfl rfl (by decide) rfl rfl ?_
    refine QW.goto 53 dX8_apart_82 rfl ?_
    exact vc
theorem vX8_apart_102 {g : QG} {K : Int32 → Hp → Prop} {h : Hp} {a4 a5 a6 : Int32} (vc : ((h 44 13) ≤ a6 → (¬ (h 44 13) = 0 → K (a5 - a4) h) ∧ ((h 44 13) = 0 → K (0 : Int32) h)) ∧ (¬ (h 44 13) ≤ a6 → vp_in a6 6 ∧ (a4 ≤ (h 59 a6.toNatClampNeg) → FW g mX8_apart 135 [some (.ref 44), none, none, none, none, some (.int a5), some (.int a6)] [.int a4] h (q_RI K)) ∧ (¬ a4 ≤ (h 59 a6.toNatClampNeg) → vp_in a6 6 ∧ FW g mX8_apart 135 [some (.ref 44), none, none, none, none, some (.int a5), some (.int a6)] [.int (h 59 a6.toNatClampNeg)] h (q_RI K)))) : FW g mX8_apart 102 [some (.ref 44), none, none, none, some (.int a4), some (.int a5), some (.int a6)] [] h (q_RI K) := by
  refine QW.iload dX8_apart_102 rfl ?_
  refine QW.aload_n dX8_apart_104 rfl ?_
  refine FW.getI (h 44 13) dX8_apart_105 lfX8_74 sI_44_13 rfl ?_
  refine QW.icmp_ge 169 dX8_apart_108 rfl (fun hc => ?_) (fun hc => ?_)
  · replace vc := vc.1 hc
    refine QW.aload_n dX8_apart_169 rfl ?_
    refine FW.getI (h 44 13) dX8_apart_170 lfX8_74 sI_44_13 rfl ?_
    refine QW.if_ne 180 dX8_apart_173 rfl (fun hc => ?_) (fun hc => ?_)
    · replace vc := vc.1 hc
      refine QW.iload dX8_apart_180 rfl ?_
      refine QW.iload dX8_apart_182 rfl ?_
      refine QW.isub dX8_apart_184 ?_
      exact FW.ret dX8_apart_185 rfl vc
    · replace vc := vc.2 hc
      refine QW.iconst (0 : Int32) rfl dX8_apart_176 ?_
      refine QW.goto 185 dX8_apart_177 rfl ?_
      exact FW.ret dX8_apart_185 rfl vc
  · replace vc := vc.2 hc
    refine QW.aload_n dX8_apart_111 rfl ?_
    refine FW.getR dX8_apart_112 lfX8_57 sR_44_28 ?_
    refine QW.iload dX8_apart_115 rfl ?_
    refine FW.iald (h 59 a6.toNatClampNeg) dX8_apart_117 sA_59 vc.1 rfl ?_
    replace vc := vc.2
    refine QW.iload dX8_apart_118 rfl ?_
    refine QW.icmp_ge 133 dX8_apart_120 rfl (fun hc => ?_) (fun hc => ?_)
    · replace vc := vc.1 hc
      refine QW.iload dX8_apart_133 rfl ?_
      exact QW.sub (by exact ⟨rfl, ⟨rfl, ⟨rfl, trivial⟩⟩⟩) vc
    · replace vc := vc.2 hc
      refine QW.aload_n dX8_apart_123 rfl ?_
      refine FW.getR dX8_apart_124 lfX8_57 sR_44_28 ?_
      refine QW.iload dX8_apart_127 rfl ?_
      refine FW.iald (h 59 a6.toNatClampNeg) dX8_apart_129 sA_59 vc.1 rfl ?_
      replace vc := vc.2
      refine QW.goto 135 dX8_apart_130 rfl ?_
      exact QW.sub (by exact ⟨rfl, ⟨rfl, ⟨rfl, trivial⟩⟩⟩) vc
theorem vX8_apart_135 {g : QG} {K : Int32 → Hp → Prop} {h : Hp} {a5 a6 s0 : Int32} (vc : vp_in a6 6 ∧ ((h 59 a6.toNatClampNeg) ≤ a5 → FW g mX8_apart 102 [some (.ref 44), none, none, none, some (.int s0), some (.int a5), some (.int (a6 + (1 : Int32)))] [] h (q_RI K)) ∧ (¬ (h 59 a6.toNatClampNeg) ≤ a5 → vp_in a6 6 ∧ FW g mX8_apart 102 [some (.ref 44), none, none, none, some (.int s0), some (.int (h 59 a6.toNatClampNeg)), some (.int (a6 + (1 : Int32)))] [] h (q_RI K))) : FW g mX8_apart 135 [some (.ref 44), none, none, none, none, some (.int a5), some (.int a6)] [.int s0] h (q_RI K) := by
  refine QW.istore [some (.ref 44), none, none, none, some (.int s0), some (.int a5), some (.int a6)] dX8_apart_135 (by decide) rfl rfl ?_
  refine QW.aload_n dX8_apart_137 rfl ?_
  refine FW.getR dX8_apart_138 lfX8_57 sR_44_28 ?_
  refine QW.iload dX8_apart_141 rfl ?_
  refine FW.iald (h 59 a6.toNatClampNeg) dX8_apart_143 sA_59 vc.1 rfl ?_
  replace vc := vc.2
  refine QW.iload dX8_apart_144 rfl ?_
  refine QW.icmp_le 159 dX8_apart_146 rfl (fun hc => ?_) (fun hc => ?_)
  · replace vc := vc.1 hc
    refine QW.iload dX8_apart_159 rfl ?_
    refine QW.istore [some (.ref 44), none, none, none, some (.int s0), some (.int a5), some (.int a6)] dX8_apart_161 (by decide) rfl rfl ?_
    refine QW.iinc (a6 + (1 : Int32)) [some (.ref 44), none, none, none, some (.int s0), some (.int a5), some (.int (a6 + (1 : Int32)))] dX8_apart_163 rfl rfl (by decide) rfl rfl ?_
    refine QW.goto 102 dX8_apart_166 rfl ?_
    exact vc
  · replace vc := vc.2 hc
    refine QW.aload_n dX8_apart_149 rfl ?_
    refine FW.getR dX8_apart_150 lfX8_57 sR_44_28 ?_
    refine QW.iload dX8_apart_153 rfl ?_
    refine FW.iald (h 59 a6.toNatClampNeg) dX8_apart_155 sA_59 vc.1 rfl ?_
    replace vc := vc.2
    refine QW.goto 161 dX8_apart_156 rfl ?_
    refine QW.istore [some (.ref 44), none, none, none, some (.int s0), some (.int (h 59 a6.toNatClampNeg)), some (.int a6)] dX8_apart_161 (by decide) rfl rfl ?_
    refine QW.iinc (a6 + (1 : Int32)) [some (.ref 44), none, none, none, some (.int s0), some (.int (h 59 a6.toNatClampNeg)), some (.int (a6 + (1 : Int32)))] dX8_apart_163 rfl rfl (by decide) rfl rfl ?_
    refine QW.goto 102 dX8_apart_166 rfl ?_
    exact vc
theorem vX5_isWord_0 {g : QG} {K : Int32 → Hp → Prop} {h : Hp} {i : Nat} (vc : i < 8 ∧ FI g mJ0_length_8abf5 [.ref (2000 + i)] h (fun x1 h1 => (x1 = ((h1 7 5) - (h1 7 4)) → FW g mX5_isWord 20 [some (.ref 7), some (.ref (2000 + i)), some (.int (0 : Int32))] [] h1 (q_RI K)) ∧ (¬ x1 = ((h1 7 5) - (h1 7 4)) → K (0 : Int32) h1))) : FW g mX5_isWord 0 [some (.ref 7), some (.ref (2000 + i)), none] [] h (q_RI K) := by
  refine QW.aload_n dX5_isWord_0 rfl ?_
  refine FW.callTi vc.1 [] [] rfl dX5_isWord_1 lmX5_56 rfl ⟨Nat.le_of_ble_eq_true rfl, Nat.le_of_ble_eq_true rfl⟩ ⟨rfl, rfl⟩ (Nat.le_of_ble_eq_true rfl) (FI.mono (fun x1 h1 vc => ?_) vc.2)
  refine QW.aload_n dX5_isWord_4 rfl ?_
  refine FW.getI (h1 7 5) dX5_isWord_5 lfX5_33 sI_7_5 rfl ?_
  refine QW.aload_n dX5_isWord_8 rfl ?_
  refine FW.getI (h1 7 4) dX5_isWord_9 lfX5_43 sI_7_4 rfl ?_
  refine QW.isub dX5_isWord_12 ?_
  refine QW.icmp_eq 18 dX5_isWord_13 rfl (fun hc => ?_) (fun hc => ?_)
  · replace vc := vc.1 hc
    refine QW.iconst (0 : Int32) rfl dX5_isWord_18 ?_
    refine QW.istore_n [some (.ref 7), some (.ref (2000 + i)), some (.int (0 : Int32))] dX5_isWord_19 (by decide) rfl rfl ?_
    exact vc
  · replace vc := vc.2 hc
    refine QW.iconst (0 : Int32) rfl dX5_isWord_16 ?_
    exact FW.retZ (Or.inl rfl) dX5_isWord_17 rfl vc
theorem vX5_isWord_20 {g : QG} {K : Int32 → Hp → Prop} {h : Hp} {a2 : Int32} {i : Nat} (vc : i < 8 ∧ FI g mJ0_length_8abf5 [.ref (2000 + i)] h (fun x1 h1 => (x1 ≤ a2 → K (1 : Int32) h1) ∧ (¬ x1 ≤ a2 → vp_in ((h1 7 4) + a2) 200 ∧ i < 8 ∧ FI g mJ0_charAt_5068e [.ref (2000 + i), .int a2] h1 (fun x2 h2 => ((h1 8 (((h1 7 4) + a2).toNatClampNeg)) = x2 → FW g mX5_isWord 20 [some (.ref 7), some (.ref (2000 + i)), some (.int (a2 + (1 : Int32)))] [] h2 (q_RI K)) ∧ (¬ (h1 8 (((h1 7 4) + a2).toNatClampNeg)) = x2 → K (0 : Int32) h2))))) : FW g mX5_isWord 20 [some (.ref 7), some (.ref (2000 + i)), some (.int a2)] [] h (q_RI K) := by
  refine QW.iload_n dX5_isWord_20 rfl ?_
  refine QW.aload_n dX5_isWord_21 rfl ?_
  refine FW.callTi vc.1 [] [.int a2] rfl dX5_isWord_22 lmX5_56 rfl ⟨Nat.le_of_ble_eq_true rfl, Nat.le_of_ble_eq_true rfl⟩ ⟨rfl, rfl⟩ (Nat.le_of_ble_eq_true rfl) (FI.mono (fun x1 h1 vc => ?_) vc.2)
  refine QW.icmp_ge 55 dX5_isWord_25 rfl (fun hc => ?_) (fun hc => ?_)
  · replace vc := vc.1 hc
    refine QW.iconst (1 : Int32) rfl dX5_isWord_55 ?_
    exact FW.retZ (Or.inr rfl) dX5_isWord_56 rfl vc
  · replace vc := vc.2 hc
    refine QW.aload_n dX5_isWord_28 rfl ?_
    refine FW.getR dX5_isWord_29 lfX5_9 sR_7_0 ?_
    refine QW.aload_n dX5_isWord_32 rfl ?_
    refine FW.getI (h1 7 4) dX5_isWord_33 lfX5_43 sI_7_4 rfl ?_
    refine QW.iload_n dX5_isWord_36 rfl ?_
    refine QW.iadd dX5_isWord_37 ?_
    refine FW.iald (h1 8 (((h1 7 4) + a2).toNatClampNeg)) dX5_isWord_38 sA_8 vc.1 rfl ?_
    replace vc := vc.2
    refine QW.aload_n dX5_isWord_39 rfl ?_
    refine QW.iload_n dX5_isWord_40 rfl ?_
    refine FW.callTi vc.1 [.int a2] [.int (h1 8 (((h1 7 4) + a2).toNatClampNeg))] rfl dX5_isWord_41 lmX5_61 rfl ⟨Nat.le_of_ble_eq_true rfl, Nat.le_of_ble_eq_true rfl⟩ ⟨rfl, rfl⟩ (Nat.le_of_ble_eq_true rfl) (FI.mono (fun x2 h2 vc => ?_) vc.2)
    refine QW.icmp_eq 49 dX5_isWord_44 rfl (fun hc => ?_) (fun hc => ?_)
    · replace vc := vc.1 hc
      refine QW.iinc (a2 + (1 : Int32)) [some (.ref 7), some (.ref (2000 + i)), some (.int (a2 + (1 : Int32)))] dX5_isWord_49 rfl rfl (by decide) rfl rfl ?_
      refine QW.goto 20 dX5_isWord_52 rfl ?_
      exact vc
    · replace vc := vc.2 hc
      refine QW.iconst (0 : Int32) rfl dX5_isWord_47 ?_
      exact FW.retZ (Or.inl rfl) dX5_isWord_48 rfl vc
theorem vX8_fault_0 {g : QG} {K : Int32 → Hp → Prop} {h : Hp} (vc : FV g mX8_token [.ref 44] (q_up (q_up (q_up (q_up (q_up h 44 14 (0 : Int32)) 44 5 (0 : Int32)) 44 17 (h 44 6)) 44 18 (h 44 7)) 44 19 (h 44 13)) (fun h1 => FI g mX8_readsLine [.ref 44] h1 (fun x2 h2 => (¬ x2 = 0 → FW g mX8_fault 50 [some (.ref 44), none] [] h2 (q_RI K)) ∧ (x2 = 0 → K (h2 44 15) h2)))) : FW g mX8_fault 0 [some (.ref 44), none] [] h (q_RI K) := by
  refine QW.aload_n dX8_fault_0 rfl ?_
  refine QW.iconst (0 : Int32) rfl dX8_fault_1 ?_
  refine FW.putI dX8_fault_2 lfX8_84 sP_44_14 ?_
  refine QW.aload_n dX8_fault_5 rfl ?_
  refine QW.iconst (0 : Int32) rfl dX8_fault_6 ?_
  refine FW.putI dX8_fault_7 lfX8_114 sP_44_5 ?_
  refine QW.aload_n dX8_fault_10 rfl ?_
  refine QW.aload_n dX8_fault_11 rfl ?_
  refine FW.getI (h 44 6) dX8_fault_12 lfX8_23 sI_44_6 rfl ?_
  refine FW.putI dX8_fault_15 lfX8_120 sP_44_17 ?_
  refine QW.aload_n dX8_fault_18 rfl ?_
  refine QW.aload_n dX8_fault_19 rfl ?_
  refine FW.getI (h 44 7) dX8_fault_20 lfX8_154 sI_44_7 rfl ?_
  refine FW.putI dX8_fault_23 lfX8_127 sP_44_18 ?_
  refine QW.aload_n dX8_fault_26 rfl ?_
  refine QW.aload_n dX8_fault_27 rfl ?_
  refine FW.getI (h 44 13) dX8_fault_28 lfX8_74 sI_44_13 rfl ?_
  refine FW.putI dX8_fault_31 lfX8_148 sP_44_19 ?_
  refine QW.aload_n dX8_fault_34 rfl ?_
  refine FW.callVv [] [] rfl dX8_fault_35 lmX8_117 sC_44 rfl ⟨Nat.le_of_ble_eq_true rfl, Nat.le_of_ble_eq_true rfl⟩ ⟨rfl, rfl⟩ (Nat.le_of_ble_eq_true rfl) (FV.mono (fun h1 vc => ?_) vc)
  refine QW.aload_n dX8_fault_38 rfl ?_
  refine FW.callVi [] [] rfl dX8_fault_39 lmX8_157 sC_44 rfl ⟨Nat.le_of_ble_eq_true rfl, Nat.le_of_ble_eq_true rfl⟩ ⟨rfl, rfl⟩ (Nat.le_of_ble_eq_true rfl) (FI.mono (fun x2 h2 vc => ?_) vc)
  refine QW.if_ne 50 dX8_fault_42 rfl (fun hc => ?_) (fun hc => ?_)
  · replace vc := vc.1 hc
    exact vc
  · replace vc := vc.2 hc
    refine QW.aload_n dX8_fault_45 rfl ?_
    refine FW.getI (h2 44 15) dX8_fault_46 lfX8_87 sI_44_15 rfl ?_
    exact FW.ret dX8_fault_49 rfl vc
theorem vX8_fault_50 {g : QG} {K : Int32 → Hp → Prop} {h : Hp} (vc : ((h 44 3) ≤ (h 44 15) → K (-1 : Int32) h) ∧ (¬ (h 44 3) ≤ (h 44 15) → (¬ ((h 44 16) - (h 44 15)) = (1 : Int32) → FW g mX8_fault 102 [some (.ref 44), none] [.int (0 : Int32)] h (q_RI K)) ∧ (((h 44 16) - (h 44 15)) = (1 : Int32) → vp_in (h 44 15) 200 ∧ (¬ (h 47 ((h 44 15).toNatClampNeg)) = (59 : Int32) → FW g mX8_fault 102 [some (.ref 44), none] [.int (0 : Int32)] h (q_RI K)) ∧ ((h 47 ((h 44 15).toNatClampNeg)) = (59 : Int32) → ((12 : Int32) ≤ (h 44 5) → FW g mX8_fault 102 [some (.ref 44), none] [.int (0 : Int32)] h (q_RI K)) ∧ (¬ (12 : Int32) ≤ (h 44 5) → FW g mX8_fault 102 [some (.ref 44), none] [.int (1 : Int32)] h (q_RI K)))))) : FW g mX8_fault 50 [some (.ref 44), none] [] h (q_RI K) := by
  refine QW.aload_n dX8_fault_50 rfl ?_
  refine FW.getI (h 44 15) dX8_fault_51 lfX8_87 sI_44_15 rfl ?_
  refine QW.aload_n dX8_fault_54 rfl ?_
  refine FW.getI (h 44 3) dX8_fault_55 lfX8_79 sI_44_3 rfl ?_
  refine QW.icmp_ge 128 dX8_fault_58 rfl (fun hc => ?_) (fun hc => ?_)
  · replace vc := vc.1 hc
    refine QW.iconst (-1 : Int32) rfl dX8_fault_128 ?_
    exact FW.ret dX8_fault_129 rfl vc
  · replace vc := vc.2 hc
    refine QW.aload_n dX8_fault_61 rfl ?_
    refine FW.getI (h 44 16) dX8_fault_62 lfX8_94 sI_44_16 rfl ?_
    refine QW.aload_n dX8_fault_65 rfl ?_
    refine FW.getI (h 44 15) dX8_fault_66 lfX8_87 sI_44_15 rfl ?_
    refine QW.isub dX8_fault_69 ?_
    refine QW.iconst (1 : Int32) rfl dX8_fault_70 ?_
    refine QW.icmp_ne 101 dX8_fault_71 rfl (fun hc => ?_) (fun hc => ?_)
    · replace vc := vc.1 hc
      refine QW.iconst (0 : Int32) rfl dX8_fault_101 ?_
      exact vc
    · replace vc := vc.2 hc
      refine QW.aload_n dX8_fault_74 rfl ?_
      refine FW.getR dX8_fault_75 lfX8_17 sR_44_2 ?_
      refine QW.aload_n dX8_fault_78 rfl ?_
      refine FW.getI (h 44 15) dX8_fault_79 lfX8_87 sI_44_15 rfl ?_
      refine FW.iald (h 47 ((h 44 15).toNatClampNeg)) dX8_fault_82 sA_47 vc.1 rfl ?_
      replace vc := vc.2
      refine QW.bipush (59 : Int32) rfl dX8_fault_83 ?_
      refine QW.icmp_ne 101 dX8_fault_85 rfl (fun hc => ?_) (fun hc => ?_)
      · replace vc := vc.1 hc
        refine QW.iconst (0 : Int32) rfl dX8_fault_101 ?_
        exact vc
      · replace vc := vc.2 hc
        refine QW.aload_n dX8_fault_88 rfl ?_
        refine FW.getI (h 44 5) dX8_fault_89 lfX8_114 sI_44_5 rfl ?_
        refine QW.bipush (12 : Int32) rfl dX8_fault_92 ?_
        refine QW.icmp_ge 101 dX8_fault_94 rfl (fun hc => ?_) (fun hc => ?_)
        · replace vc := vc.1 hc
          refine QW.iconst (0 : Int32) rfl dX8_fault_101 ?_
          exact vc
        · replace vc := vc.2 hc
          refine QW.iconst (1 : Int32) rfl dX8_fault_97 ?_
          refine QW.goto 102 dX8_fault_98 rfl ?_
          exact vc
theorem vX8_fault_102 {g : QG} {K : Int32 → Hp → Prop} {h : Hp} {s0 : Int32} (vc : (s0 = 0 → (¬ s0 = 0 → FW g mX8_fault 50 [some (.ref 44), none] [] h (q_RI K)) ∧ (s0 = 0 → K (h 44 15) h)) ∧ (¬ s0 = 0 → FV g mX8_token [.ref 44] h (fun h1 => FI g mX8_readsLine [.ref 44] h1 (fun x2 h2 => (¬ x2 = 0 → FW g mX8_fault 50 [some (.ref 44), none] [] h2 (q_RI K)) ∧ (x2 = 0 → K (h2 44 15) h2))))) : FW g mX8_fault 102 [some (.ref 44), none] [.int s0] h (q_RI K) := by
  refine QW.istore_n [some (.ref 44), some (.int s0)] dX8_fault_102 (by decide) rfl rfl ?_
  refine QW.iload_n dX8_fault_103 rfl ?_
  refine QW.if_eq 116 dX8_fault_104 rfl (fun hc => ?_) (fun hc => ?_)
  · replace vc := vc.1 hc
    refine QW.iload_n dX8_fault_116 rfl ?_
    refine QW.if_ne 125 dX8_fault_117 rfl (fun hc => ?_) (fun hc => ?_)
    · replace vc := vc.1 hc
      refine QW.goto 50 dX8_fault_125 rfl ?_
      exact QW.sub (by exact ⟨rfl, trivial⟩) vc
    · replace vc := vc.2 hc
      refine QW.aload_n dX8_fault_120 rfl ?_
      refine FW.getI (h 44 15) dX8_fault_121 lfX8_87 sI_44_15 rfl ?_
      exact FW.ret dX8_fault_124 rfl vc
  · replace vc := vc.2 hc
    refine QW.aload_n dX8_fault_107 rfl ?_
    refine FW.callVv [] [] rfl dX8_fault_108 lmX8_117 sC_44 rfl ⟨Nat.le_of_ble_eq_true rfl, Nat.le_of_ble_eq_true rfl⟩ ⟨rfl, rfl⟩ (Nat.le_of_ble_eq_true rfl) (FV.mono (fun h1 vc => ?_) vc)
    refine QW.aload_n dX8_fault_111 rfl ?_
    refine FW.callVi [] [] rfl dX8_fault_112 lmX8_157 sC_44 rfl ⟨Nat.le_of_ble_eq_true rfl, Nat.le_of_ble_eq_true rfl⟩ ⟨rfl, rfl⟩ (Nat.le_of_ble_eq_true rfl) (FI.mono (fun x2 h2 vc => ?_) vc)
    refine QW.istore_n [some (.ref 44), some (.int x2)] dX8_fault_115 (by decide) rfl rfl ?_
    refine QW.iload_n dX8_fault_116 rfl ?_
    refine QW.if_ne 125 dX8_fault_117 rfl (fun hc => ?_) (fun hc => ?_)
    · replace vc := vc.1 hc
      refine QW.goto 50 dX8_fault_125 rfl ?_
      exact QW.sub (by exact ⟨rfl, trivial⟩) vc
    · replace vc := vc.2 hc
      refine QW.aload_n dX8_fault_120 rfl ?_
      refine FW.getI (h2 44 15) dX8_fault_121 lfX8_87 sI_44_15 rfl ?_
      exact FW.ret dX8_fault_124 rfl vc
theorem vX7_standing_0 {g : QG} {K : Int32 → Hp → Prop} {h : Hp} {a1 : Int32} (vc : FI g mX7_isMinute [.int a1] h (fun x1 h1 => (¬ x1 = 0 → FV g mX2_asTold [.ref 20] h1 (fun h2 => FI g mX2_stoodAt [.ref 20, .int a1] h2 (fun x3 h3 => K x3 h3))) ∧ (x1 = 0 → K (-3 : Int32) h1))) : FW g mX7_standing 0 [some (.ref 0), some (.int a1)] [] h (q_RI K) := by
  refine QW.iload_n dX7_standing_0 rfl ?_
  refine FW.callSi [.int a1] [] rfl dX7_standing_1 lmX7_199 rfl ⟨Nat.le_of_ble_eq_true rfl, Nat.le_of_ble_eq_true rfl⟩ ⟨rfl, rfl⟩ (Nat.le_of_ble_eq_true rfl) (FI.mono (fun x1 h1 vc => ?_) vc)
  refine QW.if_ne 10 dX7_standing_4 rfl (fun hc => ?_) (fun hc => ?_)
  · replace vc := vc.1 hc
    refine QW.aload_n dX7_standing_10 rfl ?_
    refine FW.getR dX7_standing_11 lfX7_37 sR_0_3 ?_
    refine FW.callVv [] [] rfl dX7_standing_14 lmX7_202 sC_20 rfl ⟨Nat.le_of_ble_eq_true rfl, Nat.le_of_ble_eq_true rfl⟩ ⟨rfl, rfl⟩ (Nat.le_of_ble_eq_true rfl) (FV.mono (fun h2 vc => ?_) vc)
    refine QW.aload_n dX7_standing_17 rfl ?_
    refine FW.getR dX7_standing_18 lfX7_37 sR_0_3 ?_
    refine QW.iload_n dX7_standing_21 rfl ?_
    refine FW.callVi [.int a1] [] rfl dX7_standing_22 lmX7_205 sC_20 rfl ⟨Nat.le_of_ble_eq_true rfl, Nat.le_of_ble_eq_true rfl⟩ ⟨rfl, rfl⟩ (Nat.le_of_ble_eq_true rfl) (FI.mono (fun x3 h3 vc => ?_) vc)
    exact FW.ret dX7_standing_25 rfl vc
  · replace vc := vc.2 hc
    refine QW.bipush (-3 : Int32) rfl dX7_standing_7 ?_
    exact FW.ret dX7_standing_9 rfl vc
theorem vX8_standing_0 {g : QG} {K : Int32 → Hp → Prop} {h : Hp} {a1 : Int32} (vc : FI g mX8_isTime [.int a1] h (fun x1 h1 => (x1 = 0 → K (-3 : Int32) h1) ∧ (¬ x1 = 0 → FI g mX8_standingAt [.ref 44, .int a1] h1 (fun x2 h2 => K x2 h2)))) : FW g mX8_standing 0 [some (.ref 44), some (.int a1)] [] h (q_RI K) := by
  refine QW.iload_n dX8_standing_0 rfl ?_
  refine FW.callSi [.int a1] [] rfl dX8_standing_1 lmX8_229 rfl ⟨Nat.le_of_ble_eq_true rfl, Nat.le_of_ble_eq_true rfl⟩ ⟨rfl, rfl⟩ (Nat.le_of_ble_eq_true rfl) (FI.mono (fun x1 h1 vc => ?_) vc)
  refine QW.if_eq 15 dX8_standing_4 rfl (fun hc => ?_) (fun hc => ?_)
  · replace vc := vc.1 hc
    refine QW.bipush (-3 : Int32) rfl dX8_standing_15 ?_
    exact FW.ret dX8_standing_17 rfl vc
  · replace vc := vc.2 hc
    refine QW.aload_n dX8_standing_7 rfl ?_
    refine QW.iload_n dX8_standing_8 rfl ?_
    refine FW.callVi [.int a1] [] rfl dX8_standing_9 lmX8_232 sC_44 rfl ⟨Nat.le_of_ble_eq_true rfl, Nat.le_of_ble_eq_true rfl⟩ ⟨rfl, rfl⟩ (Nat.le_of_ble_eq_true rfl) (FI.mono (fun x2 h2 vc => ?_) vc)
    refine QW.goto 17 dX8_standing_12 rfl ?_
    exact FW.ret dX8_standing_17 rfl vc
theorem vX7_odds_0 {g : QG} {K : Int32 → Hp → Prop} {h : Hp} {a1 a2 a3 a4 : Int32} (vc : FI g mX6_hasGuest [.ref 1, .int a1] h (fun x1 h1 => (¬ x1 = 0 → FI g mX7_areMinutes [.int a2, .int a3] h1 (fun x2 h2 => (x2 = 0 → K (-3 : Int32) h2) ∧ (¬ x2 = 0 → FI g mX7_isEither [.int a4] h2 (fun x3 h3 => (¬ x3 = 0 → FV g mX2_asTold [.ref 20] h3 (fun h4 => FV g mX2_tally [.ref 20, .int a2, .int a3] h4 (fun h5 => vp_in a1 6 ∧ FI g mX7_commonDivisor [.int ((a3 - a2) + (1 : Int32)), .int (h5 23 a1.toNatClampNeg)] h5 (fun x6 h6 => ((1 : Int32) ≤ x6 → (¬ a4 = 0 → (¬ x6 = 0) ∧ K (((a3 - a2) + (1 : Int32)) / x6) h6) ∧ (a4 = 0 → (¬ x6 = 0) ∧ K ((h5 23 a1.toNatClampNeg) / x6) h6)) ∧ (¬ (1 : Int32) ≤ x6 → K (-3 : Int32) h6))))) ∧ (x3 = 0 → K (-3 : Int32) h3))))) ∧ (x1 = 0 → K (-2 : Int32) h1))) : FW g mX7_odds 0 [some (.ref 0), some (.int a1), some (.int a2), some (.int a3), some (.int a4), none, none, none] [] h (q_RI K) := by
  refine QW.aload_n dX7_odds_0 rfl ?_
  refine FW.getR dX7_odds_1 lfX7_10 sR_0_0 ?_
  refine QW.iload_n dX7_odds_4 rfl ?_
  refine FW.callVi [.int a1] [] rfl dX7_odds_5 lmX7_121 sC_1 rfl ⟨Nat.le_of_ble_eq_true rfl, Nat.le_of_ble_eq_true rfl⟩ ⟨rfl, rfl⟩ (Nat.le_of_ble_eq_true rfl) (FI.mono (fun x1 h1 vc => ?_) vc)
  refine QW.if_ne 14 dX7_odds_8 rfl (fun hc => ?_) (fun hc => ?_)
  · replace vc := vc.1 hc
    refine QW.iload_n dX7_odds_14 rfl ?_
    refine QW.iload_n dX7_odds_15 rfl ?_
    refine FW.callSi [.int a2, .int a3] [] rfl dX7_odds_16 lmX7_208 rfl ⟨Nat.le_of_ble_eq_true rfl, Nat.le_of_ble_eq_true rfl⟩ ⟨rfl, rfl⟩ (Nat.le_of_ble_eq_true rfl) (FI.mono (fun x2 h2 vc => ?_) vc)
    refine QW.if_eq 30 dX7_odds_19 rfl (fun hc => ?_) (fun hc => ?_)
    · replace vc := vc.1 hc
      refine QW.bipush (-3 : Int32) rfl dX7_odds_30 ?_
      exact FW.ret dX7_odds_32 rfl vc
    · replace vc := vc.2 hc
      refine QW.iload dX7_odds_22 rfl ?_
      refine FW.callSi [.int a4] [] rfl dX7_odds_24 lmX7_193 rfl ⟨Nat.le_of_ble_eq_true rfl, Nat.le_of_ble_eq_true rfl⟩ ⟨rfl, rfl⟩ (Nat.le_of_ble_eq_true rfl) (FI.mono (fun x3 h3 vc => ?_) vc)
      refine QW.if_ne 33 dX7_odds_27 rfl (fun hc => ?_) (fun hc => ?_)
      · replace vc := vc.1 hc
        refine QW.aload_n dX7_odds_33 rfl ?_
        refine FW.getR dX7_odds_34 lfX7_37 sR_0_3 ?_
        refine FW.callVv [] [] rfl dX7_odds_37 lmX7_202 sC_20 rfl ⟨Nat.le_of_ble_eq_true rfl, Nat.le_of_ble_eq_true rfl⟩ ⟨rfl, rfl⟩ (Nat.le_of_ble_eq_true rfl) (FV.mono (fun h4 vc => ?_) vc)
        refine QW.aload_n dX7_odds_40 rfl ?_
        refine FW.getR dX7_odds_41 lfX7_37 sR_0_3 ?_
        refine QW.iload_n dX7_odds_44 rfl ?_
        refine QW.iload_n dX7_odds_45 rfl ?_
        refine FW.callVv [.int a2, .int a3] [] rfl dX7_odds_46 lmX7_211 sC_20 rfl ⟨Nat.le_of_ble_eq_true rfl, Nat.le_of_ble_eq_true rfl⟩ ⟨rfl, rfl⟩ (Nat.le_of_ble_eq_true rfl) (FV.mono (fun h5 vc => ?_) vc)
        refine QW.aload_n dX7_odds_49 rfl ?_
        refine FW.getR dX7_odds_50 lfX7_37 sR_0_3 ?_
        refine FW.getR dX7_odds_53 lfX7_215 sR_20_4 ?_
        refine QW.iload_n dX7_odds_56 rfl ?_
        refine FW.iald (h5 23 a1.toNatClampNeg) dX7_odds_57 sA_23 vc.1 rfl ?_
        replace vc := vc.2
        refine QW.istore [some (.ref 0), some (.int a1), some (.int a2), some (.int a3), some (.int a4), some (.int (h5 23 a1.toNatClampNeg)), none, none] dX7_odds_58 (by decide) rfl rfl ?_
        refine QW.iload_n dX7_odds_60 rfl ?_
        refine QW.iload_n dX7_odds_61 rfl ?_
        refine QW.isub dX7_odds_62 ?_
        refine QW.iconst (1 : Int32) rfl dX7_odds_63 ?_
        refine QW.iadd dX7_odds_64 ?_
        refine QW.istore [some (.ref 0), some (.int a1), some (.int a2), some (.int a3), some (.int a4), some (.int (h5 23 a1.toNatClampNeg)), some (.int ((a3 - a2) + (1 : Int32))), none] dX7_odds_65 (by decide) rfl rfl ?_
        refine QW.iload dX7_odds_67 rfl ?_
        refine QW.iload dX7_odds_69 rfl ?_
        refine FW.callSi [.int ((a3 - a2) + (1 : Int32)), .int (h5 23 a1.toNatClampNeg)] [] rfl dX7_odds_71 lmX7_218 rfl ⟨Nat.le_of_ble_eq_true rfl, Nat.le_of_ble_eq_true rfl⟩ ⟨rfl, rfl⟩ (Nat.le_of_ble_eq_true rfl) (FI.mono (fun x6 h6 vc => ?_) vc)
        refine QW.istore [some (.ref 0), some (.int a1), some (.int a2), some (.int a3), some (.int a4), some (.int (h5 23 a1.toNatClampNeg)), some (.int ((a3 - a2) + (1 : Int32))), some (.int x6)] dX7_odds_74 (by decide) rfl rfl ?_
        refine QW.iload dX7_odds_76 rfl ?_
        refine QW.iconst (1 : Int32) rfl dX7_odds_78 ?_
        refine QW.icmp_ge 85 dX7_odds_79 rfl (fun hc => ?_) (fun hc => ?_)
        · replace vc := vc.1 hc
          refine QW.iload dX7_odds_85 rfl ?_
          refine QW.if_ne 95 dX7_odds_87 rfl (fun hc => ?_) (fun hc => ?_)
          · replace vc := vc.1 hc
            refine QW.iload dX7_odds_95 rfl ?_
            refine QW.iload dX7_odds_97 rfl ?_
            refine QW.idiv vc.1 dX7_odds_99 ?_
            replace vc := vc.2
            exact FW.ret dX7_odds_100 rfl vc
          · replace vc := vc.2 hc
            refine QW.iload dX7_odds_90 rfl ?_
            refine QW.goto 97 dX7_odds_92 rfl ?_
            refine QW.iload dX7_odds_97 rfl ?_
            refine QW.idiv vc.1 dX7_odds_99 ?_
            replace vc := vc.2
            exact FW.ret dX7_odds_100 rfl vc
        · replace vc := vc.2 hc
          refine QW.bipush (-3 : Int32) rfl dX7_odds_82 ?_
          exact FW.ret dX7_odds_84 rfl vc
      · replace vc := vc.2 hc
        refine QW.bipush (-3 : Int32) rfl dX7_odds_30 ?_
        exact FW.ret dX7_odds_32 rfl vc
  · replace vc := vc.2 hc
    refine QW.bipush (-2 : Int32) rfl dX7_odds_11 ?_
    exact FW.ret dX7_odds_13 rfl vc
theorem vX8_plot_0 {g : QG} {K : Int32 → Hp → Prop} {h : Hp} {a1 a2 a3 a4 : Int32} (vc : FI g mX8_isGuest [.ref 44, .int a1] h (fun x1 h1 => (x1 = 0 → K (-2 : Int32) h1) ∧ (¬ x1 = 0 → FI g mX8_everybody [.ref 44] h1 (fun x2 h2 => FI g mX8_in [.long a2.toInt64, .long (0 : Int64), .long x2.toInt64] h2 (fun x3 h3 => (x3 = 0 → K (-2 : Int32) h3) ∧ (¬ x3 = 0 → FI g mX8_has [.int a2, .int a1] h3 (fun x4 h4 => (x4 = 0 → FI g mX8_isTime [.int a3] h4 (fun x5 h5 => (x5 = 0 → K (-3 : Int32) h5) ∧ (¬ x5 = 0 → FI g mX8_in [.long a4.toInt64, .long (0 : Int64), .long (1 : Int64)] h5 (fun x6 h6 => (¬ x6 = 0 → FV g mX8_savePaces [.ref 44] h6 (fun h7 => FW g mX8_plot 64 [some (.ref 44), some (.int a1), some (.int a2), some (.int a3), some (.int a4), some (.int (-1 : Int32)), some (.int (0 : Int32)), none] [] h7 (q_RI K))) ∧ (x6 = 0 → K (-3 : Int32) h6))))) ∧ (¬ x4 = 0 → K (-2 : Int32) h4)))))))) : FW g mX8_plot 0 [some (.ref 44), some (.int a1), some (.int a2), some (.int a3), some (.int a4), none, none, none] [] h (q_RI K) := by
  refine QW.aload_n dX8_plot_0 rfl ?_
  refine QW.iload_n dX8_plot_1 rfl ?_
  refine FW.callVi [.int a1] [] rfl dX8_plot_2 lmX8_173 sC_44 rfl ⟨Nat.le_of_ble_eq_true rfl, Nat.le_of_ble_eq_true rfl⟩ ⟨rfl, rfl⟩ (Nat.le_of_ble_eq_true rfl) (FI.mono (fun x1 h1 vc => ?_) vc)
  refine QW.if_eq 30 dX8_plot_5 rfl (fun hc => ?_) (fun hc => ?_)
  · replace vc := vc.1 hc
    refine QW.bipush (-2 : Int32) rfl dX8_plot_30 ?_
    exact FW.ret dX8_plot_32 rfl vc
  · replace vc := vc.2 hc
    refine QW.iload_n dX8_plot_8 rfl ?_
    refine QW.i2l dX8_plot_9 ?_
    refine QW.lconst (0 : Int64) rfl dX8_plot_10 ?_
    refine QW.aload_n dX8_plot_11 rfl ?_
    refine FW.callVi [] [.long (0 : Int64), .long a2.toInt64] rfl dX8_plot_12 lmX8_213 sC_44 rfl ⟨Nat.le_of_ble_eq_true rfl, Nat.le_of_ble_eq_true rfl⟩ ⟨rfl, rfl⟩ (Nat.le_of_ble_eq_true rfl) (FI.mono (fun x2 h2 vc => ?_) vc)
    refine QW.i2l dX8_plot_15 ?_
    refine FW.callSi [.long a2.toInt64, .long (0 : Int64), .long x2.toInt64] [] rfl dX8_plot_16 lmX8_70 rfl ⟨Nat.le_of_ble_eq_true rfl, Nat.le_of_ble_eq_true rfl⟩ ⟨rfl, rfl⟩ (Nat.le_of_ble_eq_true rfl) (FI.mono (fun x3 h3 vc => ?_) vc)
    refine QW.if_eq 30 dX8_plot_19 rfl (fun hc => ?_) (fun hc => ?_)
    · replace vc := vc.1 hc
      refine QW.bipush (-2 : Int32) rfl dX8_plot_30 ?_
      exact FW.ret dX8_plot_32 rfl vc
    · replace vc := vc.2 hc
      refine QW.iload_n dX8_plot_22 rfl ?_
      refine QW.iload_n dX8_plot_23 rfl ?_
      refine FW.callSi [.int a2, .int a1] [] rfl dX8_plot_24 lmX8_130 rfl ⟨Nat.le_of_ble_eq_true rfl, Nat.le_of_ble_eq_true rfl⟩ ⟨rfl, rfl⟩ (Nat.le_of_ble_eq_true rfl) (FI.mono (fun x4 h4 vc => ?_) vc)
      refine QW.if_eq 33 dX8_plot_27 rfl (fun hc => ?_) (fun hc => ?_)
      · replace vc := vc.1 hc
        refine QW.iload_n dX8_plot_33 rfl ?_
        refine FW.callSi [.int a3] [] rfl dX8_plot_34 lmX8_229 rfl ⟨Nat.le_of_ble_eq_true rfl, Nat.le_of_ble_eq_true rfl⟩ ⟨rfl, rfl⟩ (Nat.le_of_ble_eq_true rfl) (FI.mono (fun x5 h5 vc => ?_) vc)
        refine QW.if_eq 51 dX8_plot_37 rfl (fun hc => ?_) (fun hc => ?_)
        · replace vc := vc.1 hc
          refine QW.bipush (-3 : Int32) rfl dX8_plot_51 ?_
          exact FW.ret dX8_plot_53 rfl vc
        · replace vc := vc.2 hc
          refine QW.iload dX8_plot_40 rfl ?_
          refine QW.i2l dX8_plot_42 ?_
          refine QW.lconst (0 : Int64) rfl dX8_plot_43 ?_
          refine QW.lconst (1 : Int64) rfl dX8_plot_44 ?_
          refine FW.callSi [.long a4.toInt64, .long (0 : Int64), .long (1 : Int64)] [] rfl dX8_plot_45 lmX8_70 rfl ⟨Nat.le_of_ble_eq_true rfl, Nat.le_of_ble_eq_true rfl⟩ ⟨rfl, rfl⟩ (Nat.le_of_ble_eq_true rfl) (FI.mono (fun x6 h6 vc => ?_) vc)
          refine QW.if_ne 54 dX8_plot_48 rfl (fun hc => ?_) (fun hc => ?_)
          · replace vc := vc.1 hc
            refine QW.iconst (-1 : Int32) rfl dX8_plot_54 ?_
            refine QW.istore [some (.ref 44), some (.int a1), some (.int a2), some (.int a3), some (.int a4), some (.int (-1 : Int32)), none, none] dX8_plot_55 (by decide) rfl rfl ?_
            refine QW.aload_n dX8_plot_57 rfl ?_
            refine FW.callVv [] [] rfl dX8_plot_58 lmX8_243 sC_44 rfl ⟨Nat.le_of_ble_eq_true rfl, Nat.le_of_ble_eq_true rfl⟩ ⟨rfl, rfl⟩ (Nat.le_of_ble_eq_true rfl) (FV.mono (fun h7 vc => ?_) vc)
            refine QW.iconst (0 : Int32) rfl dX8_plot_61 ?_
            refine QW.istore [some (.ref 44), some (.int a1), some (.int a2), some (.int a3), some (.int a4), some (.int (-1 : Int32)), some (.int (0 : Int32)), none] dX8_plot_62 (by decide) rfl rfl ?_
            exact vc
          · replace vc := vc.2 hc
            refine QW.bipush (-3 : Int32) rfl dX8_plot_51 ?_
            exact FW.ret dX8_plot_53 rfl vc
      · replace vc := vc.2 hc
        refine QW.bipush (-2 : Int32) rfl dX8_plot_30 ?_
        exact FW.ret dX8_plot_32 rfl vc
theorem vX8_plot_64 {g : QG} {K : Int32 → Hp → Prop} {h : Hp} {a1 a2 a3 a4 a5 a6 : Int32} (vc : (a2 < a6 → FV g mX8_restorePaces [.ref 44] h (fun h1 => (¬ a5 = (-1 : Int32) → (¬ a4 = 0 → K a5 h1) ∧ (a4 = 0 → FI g mX8_bits [.int a5] h1 (fun x2 h2 => K x2 h2))) ∧ (a5 = (-1 : Int32) → K (-1 : Int32) h1))) ∧ (¬ a2 < a6 → (¬ (a6 &&& (a2 ^^^ (-1 : Int32))) = 0 → FW g mX8_plot 64 [some (.ref 44), some (.int a1), some (.int a2), some (.int a3), some (.int a4), some (.int a5), some (.int (a6 + (1 : Int32))), none] [] h (q_RI K)) ∧ ((a6 &&& (a2 ^^^ (-1 : Int32))) = 0 → (a5 = (-1 : Int32) → FW g mX8_plot 101 [some (.ref 44), some (.int a1), some (.int a2), some (.int a3), some (.int a4), some (.int a5), some (.int a6), some (.int (0 : Int32))] [] h (q_RI K)) ∧ (¬ a5 = (-1 : Int32) → FI g mX8_bits [.int a6] h (fun x3 h3 => FI g mX8_bits [.int a5] h3 (fun x4 h4 => (x4 ≤ x3 → FW g mX8_plot 64 [some (.ref 44), some (.int a1), some (.int a2), some (.int a3), some (.int a4), some (.int a5), some (.int (a6 + (1 : Int32))), none] [] h4 (q_RI K)) ∧ (¬ x4 ≤ x3 → FW g mX8_plot 101 [some (.ref 44), some (.int a1), some (.int a2), some (.int a3), some (.int a4), some (.int a5), some (.int a6), some (.int (0 : Int32))] [] h4 (q_RI K)))))))) : FW g mX8_plot 64 [some (.ref 44), some (.int a1), some (.int a2), some (.int a3), some (.int a4), some (.int a5), some (.int a6), none] [] h (q_RI K) := by
  refine QW.iload dX8_plot_64 rfl ?_
  refine QW.iload_n dX8_plot_66 rfl ?_
  refine QW.icmp_gt 171 dX8_plot_67 rfl (fun hc => ?_) (fun hc => ?_)
  · replace vc := vc.1 hc
    refine QW.aload_n dX8_plot_171 rfl ?_
    refine FW.callVv [] [] rfl dX8_plot_172 lmX8_250 sC_44 rfl ⟨Nat.le_of_ble_eq_true rfl, Nat.le_of_ble_eq_true rfl⟩ ⟨rfl, rfl⟩ (Nat.le_of_ble_eq_true rfl) (FV.mono (fun h1 vc => ?_) vc)
    refine QW.iload dX8_plot_175 rfl ?_
    refine QW.iconst (-1 : Int32) rfl dX8_plot_177 ?_
    refine QW.icmp_ne 185 dX8_plot_178 rfl (fun hc => ?_) (fun hc => ?_)
    · replace vc := vc.1 hc
      refine QW.iload dX8_plot_185 rfl ?_
      refine QW.if_ne 198 dX8_plot_187 rfl (fun hc => ?_) (fun hc => ?_)
      · replace vc := vc.1 hc
        refine QW.iload dX8_plot_198 rfl ?_
        exact FW.ret dX8_plot_200 rfl vc
      · replace vc := vc.2 hc
        refine QW.iload dX8_plot_190 rfl ?_
        refine FW.callSi [.int a5] [] rfl dX8_plot_192 lmX8_219 rfl ⟨Nat.le_of_ble_eq_true rfl, Nat.le_of_ble_eq_true rfl⟩ ⟨rfl, rfl⟩ (Nat.le_of_ble_eq_true rfl) (FI.mono (fun x2 h2 vc => ?_) vc)
        refine QW.goto 200 dX8_plot_195 rfl ?_
        exact FW.ret dX8_plot_200 rfl vc
    · replace vc := vc.2 hc
      refine QW.iconst (-1 : Int32) rfl dX8_plot_181 ?_
      refine QW.goto 200 dX8_plot_182 rfl ?_
      exact FW.ret dX8_plot_200 rfl vc
  · replace vc := vc.2 hc
    refine QW.iload dX8_plot_70 rfl ?_
    refine QW.iload_n dX8_plot_72 rfl ?_
    refine QW.iconst (-1 : Int32) rfl dX8_plot_73 ?_
    refine QW.ixor dX8_plot_74 ?_
    refine QW.iand dX8_plot_75 ?_
    refine QW.if_ne 165 dX8_plot_76 rfl (fun hc => ?_) (fun hc => ?_)
    · replace vc := vc.1 hc
      refine QW.iinc (a6 + (1 : Int32)) [some (.ref 44), some (.int a1), some (.int a2), some (.int a3), some (.int a4), some (.int a5), some (.int (a6 + (1 : Int32))), none] dX8_plot_165 rfl rfl (by decide) rfl rfl ?_
      refine QW.goto 64 dX8_plot_168 rfl ?_
      exact vc
    · replace vc := vc.2 hc
      refine QW.iload dX8_plot_79 rfl ?_
      refine QW.iconst (-1 : Int32) rfl dX8_plot_81 ?_
      refine QW.icmp_eq 98 dX8_plot_82 rfl (fun hc => ?_) (fun hc => ?_)
      · replace vc := vc.1 hc
        refine QW.iconst (0 : Int32) rfl dX8_plot_98 ?_
        refine QW.istore [some (.ref 44), some (.int a1), some (.int a2), some (.int a3), some (.int a4), some (.int a5), some (.int a6), some (.int (0 : Int32))] dX8_plot_99 (by decide) rfl rfl ?_
        exact vc
      · replace vc := vc.2 hc
        refine QW.iload dX8_plot_85 rfl ?_
        refine FW.callSi [.int a6] [] rfl dX8_plot_87 lmX8_219 rfl ⟨Nat.le_of_ble_eq_true rfl, Nat.le_of_ble_eq_true rfl⟩ ⟨rfl, rfl⟩ (Nat.le_of_ble_eq_true rfl) (FI.mono (fun x3 h3 vc => ?_) vc)
        refine QW.iload dX8_plot_90 rfl ?_
        refine FW.callSi [.int a5] [.int x3] rfl dX8_plot_92 lmX8_219 rfl ⟨Nat.le_of_ble_eq_true rfl, Nat.le_of_ble_eq_true rfl⟩ ⟨rfl, rfl⟩ (Nat.le_of_ble_eq_true rfl) (FI.mono (fun x4 h4 vc => ?_) vc)
        refine QW.icmp_ge 165 dX8_plot_95 rfl (fun hc => ?_) (fun hc => ?_)
        · replace vc := vc.1 hc
          refine QW.iinc (a6 + (1 : Int32)) [some (.ref 44), some (.int a1), some (.int a2), some (.int a3), some (.int a4), some (.int a5), some (.int (a6 + (1 : Int32))), none] dX8_plot_165 rfl rfl (by decide) rfl rfl ?_
          refine QW.goto 64 dX8_plot_168 rfl ?_
          exact vc
        · replace vc := vc.2 hc
          refine QW.iconst (0 : Int32) rfl dX8_plot_98 ?_
          refine QW.istore [some (.ref 44), some (.int a1), some (.int a2), some (.int a3), some (.int a4), some (.int a5), some (.int a6), some (.int (0 : Int32))] dX8_plot_99 (by decide) rfl rfl ?_
          exact vc
theorem vX8_plot_101 {g : QG} {K : Int32 → Hp → Prop} {h : Hp} {a1 a2 a3 a4 a5 a6 a7 : Int32} (vc : ((h 44 13) ≤ a7 → FI g mX8_standingAt [.ref 44, .int a3] h (fun x1 h1 => FI g mX8_has [.int x1, .int a1] h1 (fun x2 h2 => (x2 = 0 → FW g mX8_plot 64 [some (.ref 44), some (.int a1), some (.int a2), some (.int a3), some (.int a4), some (.int a5), some (.int (a6 + (1 : Int32))), none] [] h2 (q_RI K)) ∧ (¬ x2 = 0 → FW g mX8_plot 64 [some (.ref 44), some (.int a1), some (.int a2), some (.int a3), some (.int a4), some (.int a6), some (.int (a6 + (1 : Int32))), none] [] h2 (q_RI K))))) ∧ (¬ (h 44 13) ≤ a7 → FI g mX8_has [.int a6, .int a7] h (fun x3 h3 => (x3 = 0 → vp_in a7 6 ∧ vp_in a7 6 ∧ FW g mX8_plot 101 [some (.ref 44), some (.int a1), some (.int a2), some (.int a3), some (.int a4), some (.int a5), some (.int a6), some (.int (a7 + (1 : Int32)))] [] (q_up h3 51 a7.toNatClampNeg (h3 57 a7.toNatClampNeg)) (q_RI K)) ∧ (¬ x3 = 0 → vp_in a7 6 ∧ FW g mX8_plot 101 [some (.ref 44), some (.int a1), some (.int a2), some (.int a3), some (.int a4), some (.int a5), some (.int a6), some (.int (a7 + (1 : Int32)))] [] (q_up h3 51 a7.toNatClampNeg (0 : Int32)) (q_RI K))))) : FW g mX8_plot 101 [some (.ref 44), some (.int a1), some (.int a2), some (.int a3), some (.int a4), some (.int a5), some (.int a6), some (.int a7)] [] h (q_RI K) := by
  refine QW.iload dX8_plot_101 rfl ?_
  refine QW.aload_n dX8_plot_103 rfl ?_
  refine FW.getI (h 44 13) dX8_plot_104 lfX8_74 sI_44_13 rfl ?_
  refine QW.icmp_ge 144 dX8_plot_107 rfl (fun hc => ?_) (fun hc => ?_)
  · replace vc := vc.1 hc
    refine QW.aload_n dX8_plot_144 rfl ?_
    refine QW.iload_n dX8_plot_145 rfl ?_
    refine FW.callVi [.int a3] [] rfl dX8_plot_146 lmX8_232 sC_44 rfl ⟨Nat.le_of_ble_eq_true rfl, Nat.le_of_ble_eq_true rfl⟩ ⟨rfl, rfl⟩ (Nat.le_of_ble_eq_true rfl) (FI.mono (fun x1 h1 vc => ?_) vc)
    refine QW.iload_n dX8_plot_149 rfl ?_
    refine FW.callSi [.int x1, .int a1] [] rfl dX8_plot_150 lmX8_130 rfl ⟨Nat.le_of_ble_eq_true rfl, Nat.le_of_ble_eq_true rfl⟩ ⟨rfl, rfl⟩ (Nat.le_of_ble_eq_true rfl) (FI.mono (fun x2 h2 vc => ?_) vc)
    refine QW.if_eq 161 dX8_plot_153 rfl (fun hc => ?_) (fun hc => ?_)
    · replace vc := vc.1 hc
      refine QW.iload dX8_plot_161 rfl ?_
      refine QW.istore [some (.ref 44), some (.int a1), some (.int a2), some (.int a3), some (.int a4), some (.int a5), some (.int a6), some (.int a7)] dX8_plot_163 (by decide) rfl rfl ?_
      refine QW.iinc (a6 + (1 : Int32)) [some (.ref 44), some (.int a1), some (.int a2), some (.int a3), some (.int a4), some (.int a5), some (.int (a6 + (1 : Int32))), some (.int a7)] dX8_plot_165 rfl rfl (by decide) rfl rfl ?_
      refine QW.goto 64 dX8_plot_168 rfl ?_
      exact QW.sub (by exact ⟨rfl, ⟨rfl, ⟨rfl, ⟨rfl, ⟨rfl, ⟨rfl, ⟨rfl, trivial⟩⟩⟩⟩⟩⟩⟩) vc
    · replace vc := vc.2 hc
      refine QW.iload dX8_plot_156 rfl ?_
      refine QW.goto 163 dX8_plot_158 rfl ?_
      refine QW.istore [some (.ref 44), some (.int a1), some (.int a2), some (.int a3), some (.int a4), some (.int a6), some (.int a6), some (.int a7)] dX8_plot_163 (by decide) rfl rfl ?_
      refine QW.iinc (a6 + (1 : Int32)) [some (.ref 44), some (.int a1), some (.int a2), some (.int a3), some (.int a4), some (.int a6), some (.int (a6 + (1 : Int32))), some (.int a7)] dX8_plot_165 rfl rfl (by decide) rfl rfl ?_
      refine QW.goto 64 dX8_plot_168 rfl ?_
      exact QW.sub (by exact ⟨rfl, ⟨rfl, ⟨rfl, ⟨rfl, ⟨rfl, ⟨rfl, ⟨rfl, trivial⟩⟩⟩⟩⟩⟩⟩) vc
  · replace vc := vc.2 hc
    refine QW.aload_n dX8_plot_110 rfl ?_
    refine FW.getR dX8_plot_111 lfX8_33 sR_44_10 ?_
    refine QW.iload dX8_plot_114 rfl ?_
    refine QW.iload dX8_plot_116 rfl ?_
    refine QW.iload dX8_plot_118 rfl ?_
    refine FW.callSi [.int a6, .int a7] [.int a7, .ref 51] rfl dX8_plot_120 lmX8_130 rfl ⟨Nat.le_of_ble_eq_true rfl, Nat.le_of_ble_eq_true rfl⟩ ⟨rfl, rfl⟩ (Nat.le_of_ble_eq_true rfl) (FI.mono (fun x3 h3 vc => ?_) vc)
    refine QW.if_eq 130 dX8_plot_123 rfl (fun hc => ?_) (fun hc => ?_)
    · replace vc := vc.1 hc
      refine QW.aload_n dX8_plot_130 rfl ?_
      refine FW.getR dX8_plot_131 lfX8_51 sR_44_26 ?_
      refine QW.iload dX8_plot_134 rfl ?_
      refine FW.iald (h3 57 a7.toNatClampNeg) dX8_plot_136 sA_57 vc.1 rfl ?_
      replace vc := vc.2
      refine FW.iast dX8_plot_137 sA_51 vc.1 ?_
      replace vc := vc.2
      refine QW.iinc (a7 + (1 : Int32)) [some (.ref 44), some (.int a1), some (.int a2), some (.int a3), some (.int a4), some (.int a5), some (.int a6), some (.int (a7 + (1 : Int32)))] dX8_plot_138 rfl rfl (by decide) rfl rfl ?_
      refine QW.goto 101 dX8_plot_141 rfl ?_
      exact vc
    · replace vc := vc.2 hc
      refine QW.iconst (0 : Int32) rfl dX8_plot_126 ?_
      refine QW.goto 137 dX8_plot_127 rfl ?_
      refine FW.iast dX8_plot_137 sA_51 vc.1 ?_
      replace vc := vc.2
      refine QW.iinc (a7 + (1 : Int32)) [some (.ref 44), some (.int a1), some (.int a2), some (.int a3), some (.int a4), some (.int a5), some (.int a6), some (.int (a7 + (1 : Int32)))] dX8_plot_138 rfl rfl (by decide) rfl rfl ?_
      refine QW.goto 101 dX8_plot_141 rfl ?_
      exact vc
