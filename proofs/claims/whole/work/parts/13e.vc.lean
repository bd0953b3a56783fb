theorem vX8_as_0 {g : QG} {K : Int32 → Hp → Prop} {h : Hp} {a1 a2 : Int32} (vc : FI g mX8_isGuest [.ref 44, .int a1] h (fun x1 h1 => (¬ x1 = 0 → FI g mX8_in [.long a2.toInt64, .long (0 : Int64), .long (4 : Int64)] h1 (fun x2 h2 => (¬ x2 = 0 → vp_in a1 6 ∧ (a2 = 0 → (¬ (1 : Int32) = 0 → FW g mX8_as 99 [some (.ref 44), some (.int a1), none, none, none, some (.int (99 : Int32)), some (.int (0 : Int32)), none] [] h2 (q_RI K)) ∧ ((1 : Int32) = 0 → K (-4 : Int32) h2)) ∧ (¬ a2 = 0 → (¬ a2 = (1 : Int32) → FW g mX8_as 47 [some (.ref 44), some (.int a1), some (.int a2), some (.int (h2 49 a1.toNatClampNeg)), none, none, none, none] [] h2 (q_RI K)) ∧ (a2 = (1 : Int32) → (¬ (h2 49 a1.toNatClampNeg) = (3 : Int32) → (¬ (1 : Int32) = 0 → FW g mX8_as 99 [some (.ref 44), some (.int a1), none, none, none, some (.int (99 : Int32)), some (.int (0 : Int32)), none] [] h2 (q_RI K)) ∧ ((1 : Int32) = 0 → K (-4 : Int32) h2)) ∧ ((h2 49 a1.toNatClampNeg) = (3 : Int32) → FW g mX8_as 47 [some (.ref 44), some (.int a1), some (.int a2), some (.int (h2 49 a1.toNatClampNeg)), none, none, none, none] [] h2 (q_RI K))))) ∧ (x2 = 0 → K (-3 : Int32) h2))) ∧ (x1 = 0 → K (-2 : Int32) h1))) : FW g mX8_as 0 [some (.ref 44), some (.int a1), some (.int a2), none, none, none, none, none] [] h (q_RI K) := by
  refine QW.aload_n dX8_as_0 rfl ?_
  refine QW.iload_n dX8_as_1 rfl ?_
  refine FW.callVi [.int a1] [] rfl dX8_as_2 lmX8_173 sC_44 rfl ⟨Nat.le_of_ble_eq_true rfl, Nat.le_of_ble_eq_true rfl⟩ ⟨rfl, rfl⟩ (Nat.le_of_ble_eq_true rfl) (FI.mono (fun x1 h1 vc => ?_) vc)
  refine QW.if_ne 11 dX8_as_5 rfl (fun hc => ?_) (fun hc => ?_)
  · replace vc := vc.1 hc
    refine QW.iload_n dX8_as_11 rfl ?_
    refine QW.i2l dX8_as_12 ?_
    refine QW.lconst (0 : Int64) rfl dX8_as_13 ?_
    refine QW.ldc2 dX8_as_14 lkX8_180 ?_
    refine FW.callSi [.long a2.toInt64, .long (0 : Int64), .long (4 : Int64)] [] rfl dX8_as_17 lmX8_70 rfl ⟨Nat.le_of_ble_eq_true rfl, Nat.le_of_ble_eq_true rfl⟩ ⟨rfl, rfl⟩ (Nat.le_of_ble_eq_true rfl) (FI.mono (fun x2 h2 vc => ?_) vc)
    refine QW.if_ne 26 dX8_as_20 rfl (fun hc => ?_) (fun hc => ?_)
    · replace vc := vc.1 hc
      refine QW.aload_n dX8_as_26 rfl ?_
      refine FW.getR dX8_as_27 lfX8_27 sR_44_8 ?_
      refine QW.iload_n dX8_as_30 rfl ?_
      refine FW.iald (h2 49 a1.toNatClampNeg) dX8_as_31 sA_49 vc.1 rfl ?_
      replace vc := vc.2
      refine QW.istore_n [some (.ref 44), some (.int a1), some (.int a2), some (.int (h2 49 a1.toNatClampNeg)), none, none, none, none] dX8_as_32 (by decide) rfl rfl ?_
      refine QW.iload_n dX8_as_33 rfl ?_
      refine QW.if_eq 77 dX8_as_34 rfl (fun hc => ?_) (fun hc => ?_)
      · replace vc := vc.1 hc
        refine QW.iconst (1 : Int32) rfl dX8_as_77 ?_
        refine QW.goto 82 dX8_as_78 rfl ?_
        refine QW.istore [some (.ref 44), some (.int a1), some (.int a2), some (.int (h2 49 a1.toNatClampNeg)), some (.int (1 : Int32)), none, none, none] dX8_as_82 (by decide) rfl rfl ?_
        refine QW.iload dX8_as_84 rfl ?_
        refine QW.if_ne 92 dX8_as_86 rfl (fun hc => ?_) (fun hc => ?_)
        · replace vc := vc.1 hc
          refine QW.bipush (99 : Int32) rfl dX8_as_92 ?_
          refine QW.istore [some (.ref 44), some (.int a1), some (.int a2), some (.int (h2 49 a1.toNatClampNeg)), some (.int (1 : Int32)), some (.int (99 : Int32)), none, none] dX8_as_94 (by decide) rfl rfl ?_
          refine QW.iconst (0 : Int32) rfl dX8_as_96 ?_
          refine QW.istore [some (.ref 44), some (.int a1), some (.int a2), some (.int (h2 49 a1.toNatClampNeg)), some (.int (1 : Int32)), some (.int (99 : Int32)), some (.int (0 : Int32)), none] dX8_as_97 (by decide) rfl rfl ?_
          exact QW.sub (by exact ⟨rfl, ⟨rfl, ⟨rfl, ⟨rfl, trivial⟩⟩⟩⟩) vc
        · replace vc := vc.2 hc
          refine QW.bipush (-4 : Int32) rfl dX8_as_89 ?_
          exact FW.ret dX8_as_91 rfl vc
      · replace vc := vc.2 hc
        refine QW.iload_n dX8_as_37 rfl ?_
        refine QW.iconst (1 : Int32) rfl dX8_as_38 ?_
        refine QW.icmp_ne 47 dX8_as_39 rfl (fun hc => ?_) (fun hc => ?_)
        · replace vc := vc.1 hc
          exact vc
        · replace vc := vc.2 hc
          refine QW.iload_n dX8_as_42 rfl ?_
          refine QW.iconst (3 : Int32) rfl dX8_as_43 ?_
          refine QW.icmp_ne 77 dX8_as_44 rfl (fun hc => ?_) (fun hc => ?_)
          · replace vc := vc.1 hc
            refine QW.iconst (1 : Int32) rfl dX8_as_77 ?_
            refine QW.goto 82 dX8_as_78 rfl ?_
            refine QW.istore [some (.ref 44), some (.int a1), some (.int a2), some (.int (h2 49 a1.toNatClampNeg)), some (.int (1 : Int32)), none, none, none] dX8_as_82 (by decide) rfl rfl ?_
            refine QW.iload dX8_as_84 rfl ?_
            refine QW.if_ne 92 dX8_as_86 rfl (fun hc => ?_) (fun hc => ?_)
            · replace vc := vc.1 hc
              refine QW.bipush (99 : Int32) rfl dX8_as_92 ?_
              refine QW.istore [some (.ref 44), some (.int a1), some (.int a2), some (.int (h2 49 a1.toNatClampNeg)), some (.int (1 : Int32)), some (.int (99 : Int32)), none, none] dX8_as_94 (by decide) rfl rfl ?_
              refine QW.iconst (0 : Int32) rfl dX8_as_96 ?_
              refine QW.istore [some (.ref 44), some (.int a1), some (.int a2), some (.int (h2 49 a1.toNatClampNeg)), some (.int (1 : Int32)), some (.int (99 : Int32)), some (.int (0 : Int32)), none] dX8_as_97 (by decide) rfl rfl ?_
              exact QW.sub (by exact ⟨rfl, ⟨rfl, ⟨rfl, ⟨rfl, trivial⟩⟩⟩⟩) vc
            · replace vc := vc.2 hc
              refine QW.bipush (-4 : Int32) rfl dX8_as_89 ?_
              exact FW.ret dX8_as_91 rfl vc
          · replace vc := vc.2 hc
            exact vc
    · replace vc := vc.2 hc
      refine QW.bipush (-3 : Int32) rfl dX8_as_23 ?_
      exact FW.ret dX8_as_25 rfl vc
  · replace vc := vc.2 hc
    refine QW.bipush (-2 : Int32) rfl dX8_as_8 ?_
    exact FW.ret dX8_as_10 rfl vc
theorem vX8_as_47 {g : QG} {K : Int32 → Hp → Prop} {h : Hp} {a1 a2 a3 : Int32} (vc : (¬ a2 = (2 : Int32) → FW g mX8_as 57 [some (.ref 44), some (.int a1), some (.int a2), some (.int a3), none, none, none, none] [] h (q_RI K)) ∧ (a2 = (2 : Int32) → (a3 = (1 : Int32) → (¬ (1 : Int32) = 0 → FW g mX8_as 99 [some (.ref 44), some (.int a1), none, none, none, some (.int (99 : Int32)), some (.int (0 : Int32)), none] [] h (q_RI K)) ∧ ((1 : Int32) = 0 → K (-4 : Int32) h)) ∧ (¬ a3 = (1 : Int32) → FW g mX8_as 57 [some (.ref 44), some (.int a1), some (.int a2), some (.int a3), none, none, none, none] [] h (q_RI K)))) : FW g mX8_as 47 [some (.ref 44), some (.int a1), some (.int a2), some (.int a3), none, none, none, none] [] h (q_RI K) := by
  refine QW.iload_n dX8_as_47 rfl ?_
  refine QW.iconst (2 : Int32) rfl dX8_as_48 ?_
  refine QW.icmp_ne 57 dX8_as_49 rfl (fun hc => ?_) (fun hc => ?_)
  · replace vc := vc.1 hc
    exact vc
  · replace vc := vc.2 hc
    refine QW.iload_n dX8_as_52 rfl ?_
    refine QW.iconst (1 : Int32) rfl dX8_as_53 ?_
    refine QW.icmp_eq 77 dX8_as_54 rfl (fun hc => ?_) (fun hc => ?_)
    · replace vc := vc.1 hc
      refine QW.iconst (1 : Int32) rfl dX8_as_77 ?_
      refine QW.goto 82 dX8_as_78 rfl ?_
      refine QW.istore [some (.ref 44), some (.int a1), some (.int a2), some (.int a3), some (.int (1 : Int32)), none, none, none] dX8_as_82 (by decide) rfl rfl ?_
      refine QW.iload dX8_as_84 rfl ?_
      refine QW.if_ne 92 dX8_as_86 rfl (fun hc => ?_) (fun hc => ?_)
      · replace vc := vc.1 hc
        refine QW.bipush (99 : Int32) rfl dX8_as_92 ?_
        refine QW.istore [some (.ref 44), some (.int a1), some (.int a2), some (.int a3), some (.int (1 : Int32)), some (.int (99 : Int32)), none, none] dX8_as_94 (by decide) rfl rfl ?_
        refine QW.iconst (0 : Int32) rfl dX8_as_96 ?_
        refine QW.istore [some (.ref 44), some (.int a1), some (.int a2), some (.int a3), some (.int (1 : Int32)), some (.int (99 : Int32)), some (.int (0 : Int32)), none] dX8_as_97 (by decide) rfl rfl ?_
        exact QW.sub (by exact ⟨rfl, ⟨rfl, ⟨rfl, ⟨rfl, trivial⟩⟩⟩⟩) vc
      · replace vc := vc.2 hc
        refine QW.bipush (-4 : Int32) rfl dX8_as_89 ?_
        exact FW.ret dX8_as_91 rfl vc
    · replace vc := vc.2 hc
      exact vc
theorem vX8_as_57 {g : QG} {K : Int32 → Hp → Prop} {h : Hp} {a1 a2 a3 : Int32} (vc : (¬ a2 = (3 : Int32) → FW g mX8_as 67 [some (.ref 44), some (.int a1), some (.int a2), some (.int a3), none, none, none, none] [] h (q_RI K)) ∧ (a2 = (3 : Int32) → (a3 = (2 : Int32) → (¬ (1 : Int32) = 0 → FW g mX8_as 99 [some (.ref 44), some (.int a1), none, none, none, some (.int (99 : Int32)), some (.int (0 : Int32)), none] [] h (q_RI K)) ∧ ((1 : Int32) = 0 → K (-4 : Int32) h)) ∧ (¬ a3 = (2 : Int32) → FW g mX8_as 67 [some (.ref 44), some (.int a1), some (.int a2), some (.int a3), none, none, none, none] [] h (q_RI K)))) : FW g mX8_as 57 [some (.ref 44), some (.int a1), some (.int a2), some (.int a3), none, none, none, none] [] h (q_RI K) := by
  refine QW.iload_n dX8_as_57 rfl ?_
  refine QW.iconst (3 : Int32) rfl dX8_as_58 ?_
  refine QW.icmp_ne 67 dX8_as_59 rfl (fun hc => ?_) (fun hc => ?_)
  · replace vc := vc.1 hc
    exact vc
  · replace vc := vc.2 hc
    refine QW.iload_n dX8_as_62 rfl ?_
    refine QW.iconst (2 : Int32) rfl dX8_as_63 ?_
    refine QW.icmp_eq 77 dX8_as_64 rfl (fun hc => ?_) (fun hc => ?_)
    · replace vc := vc.1 hc
      refine QW.iconst (1 : Int32) rfl dX8_as_77 ?_
      refine QW.goto 82 dX8_as_78 rfl ?_
      refine QW.istore [some (.ref 44), some (.int a1), some (.int a2), some (.int a3), some (.int (1 : Int32)), none, none, none] dX8_as_82 (by decide) rfl rfl ?_
      refine QW.iload dX8_as_84 rfl ?_
      refine QW.if_ne 92 dX8_as_86 rfl (fun hc => ?_) (fun hc => ?_)
      · replace vc := vc.1 hc
        refine QW.bipush (99 : Int32) rfl dX8_as_92 ?_
        refine QW.istore [some (.ref 44), some (.int a1), some (.int a2), some (.int a3), some (.int (1 : Int32)), some (.int (99 : Int32)), none, none] dX8_as_94 (by decide) rfl rfl ?_
        refine QW.iconst (0 : Int32) rfl dX8_as_96 ?_
        refine QW.istore [some (.ref 44), some (.int a1), some (.int a2), some (.int a3), some (.int (1 : Int32)), some (.int (99 : Int32)), some (.int (0 : Int32)), none] dX8_as_97 (by decide) rfl rfl ?_
        exact QW.sub (by exact ⟨rfl, ⟨rfl, ⟨rfl, ⟨rfl, trivial⟩⟩⟩⟩) vc
      · replace vc := vc.2 hc
        refine QW.bipush (-4 : Int32) rfl dX8_as_89 ?_
        exact FW.ret dX8_as_91 rfl vc
    · replace vc := vc.2 hc
      exact vc
theorem vX8_as_67 {g : QG} {K : Int32 → Hp → Prop} {h : Hp} {a1 a2 a3 : Int32} (vc : (¬ a2 = (4 : Int32) → (¬ (0 : Int32) = 0 → FW g mX8_as 99 [some (.ref 44), some (.int a1), none, none, none, some (.int (99 : Int32)), some (.int (0 : Int32)), none] [] h (q_RI K)) ∧ ((0 : Int32) = 0 → K (-4 : Int32) h)) ∧ (a2 = (4 : Int32) → (¬ a3 = (3 : Int32) → (¬ (0 : Int32) = 0 → FW g mX8_as 99 [some (.ref 44), some (.int a1), none, none, none, some (.int (99 : Int32)), some (.int (0 : Int32)), none] [] h (q_RI K)) ∧ ((0 : Int32) = 0 → K (-4 : Int32) h)) ∧ (a3 = (3 : Int32) → (¬ (1 : Int32) = 0 → FW g mX8_as 99 [some (.ref 44), some (.int a1), none, none, none, some (.int (99 : Int32)), some (.int (0 : Int32)), none] [] h (q_RI K)) ∧ ((1 : Int32) = 0 → K (-4 : Int32) h)))) : FW g mX8_as 67 [some (.ref 44), some (.int a1), some (.int a2), some (.int a3), none, none, none, none] [] h (q_RI K) := by
  refine QW.iload_n dX8_as_67 rfl ?_
  refine QW.iconst (4 : Int32) rfl dX8_as_68 ?_
  refine QW.icmp_ne 81 dX8_as_69 rfl (fun hc => ?_) (fun hc => ?_)
  · replace vc := vc.1 hc
    refine QW.iconst (0 : Int32) rfl dX8_as_81 ?_
    refine QW.istore [some (.ref 44), some (.int a1), some (.int a2), some (.int a3), some (.int (0 : Int32)), none, none, none] dX8_as_82 (by decide) rfl rfl ?_
    refine QW.iload dX8_as_84 rfl ?_
    refine QW.if_ne 92 dX8_as_86 rfl (fun hc => ?_) (fun hc => ?_)
    · replace vc := vc.1 hc
      refine QW.bipush (99 : Int32) rfl dX8_as_92 ?_
      refine QW.istore [some (.ref 44), some (.int a1), some (.int a2), some (.int a3), some (.int (0 : Int32)), some (.int (99 : Int32)), none, none] dX8_as_94 (by decide) rfl rfl ?_
      refine QW.iconst (0 : Int32) rfl dX8_as_96 ?_
      refine QW.istore [some (.ref 44), some (.int a1), some (.int a2), some (.int a3), some (.int (0 : Int32)), some (.int (99 : Int32)), some (.int (0 : Int32)), none] dX8_as_97 (by decide) rfl rfl ?_
      exact QW.sub (by exact ⟨rfl, ⟨rfl, ⟨rfl, ⟨rfl, trivial⟩⟩⟩⟩) vc
    · replace vc := vc.2 hc
      refine QW.bipush (-4 : Int32) rfl dX8_as_89 ?_
      exact FW.ret dX8_as_91 rfl vc
  · replace vc := vc.2 hc
    refine QW.iload_n dX8_as_72 rfl ?_
    refine QW.iconst (3 : Int32) rfl dX8_as_73 ?_
    refine QW.icmp_ne 81 dX8_as_74 rfl (fun hc => ?_) (fun hc => ?_)
    · replace vc := vc.1 hc
      refine QW.iconst (0 : Int32) rfl dX8_as_81 ?_
      refine QW.istore [some (.ref 44), some (.int a1), some (.int a2), some (.int a3), some (.int (0 : Int32)), none, none, none] dX8_as_82 (by decide) rfl rfl ?_
      refine QW.iload dX8_as_84 rfl ?_
      refine QW.if_ne 92 dX8_as_86 rfl (fun hc => ?_) (fun hc => ?_)
      · replace vc := vc.1 hc
        refine QW.bipush (99 : Int32) rfl dX8_as_92 ?_
        refine QW.istore [some (.ref 44), some (.int a1), some (.int a2), some (.int a3), some (.int (0 : Int32)), some (.int (99 : Int32)), none, none] dX8_as_94 (by decide) rfl rfl ?_
        refine QW.iconst (0 : Int32) rfl dX8_as_96 ?_
        refine QW.istore [some (.ref 44), some (.int a1), some (.int a2), some (.int a3), some (.int (0 : Int32)), some (.int (99 : Int32)), some (.int (0 : Int32)), none] dX8_as_97 (by decide) rfl rfl ?_
        exact QW.sub (by exact ⟨rfl, ⟨rfl, ⟨rfl, ⟨rfl, trivial⟩⟩⟩⟩) vc
      · replace vc := vc.2 hc
        refine QW.bipush (-4 : Int32) rfl dX8_as_89 ?_
        exact FW.ret dX8_as_91 rfl vc
    · replace vc := vc.2 hc
      refine QW.iconst (1 : Int32) rfl dX8_as_77 ?_
      refine QW.goto 82 dX8_as_78 rfl ?_
      refine QW.istore [some (.ref 44), some (.int a1), some (.int a2), some (.int a3), some (.int (1 : Int32)), none, none, none] dX8_as_82 (by decide) rfl rfl ?_
      refine QW.iload dX8_as_84 rfl ?_
      refine QW.if_ne 92 dX8_as_86 rfl (fun hc => ?_) (fun hc => ?_)
      · replace vc := vc.1 hc
        refine QW.bipush (99 : Int32) rfl dX8_as_92 ?_
        refine QW.istore [some (.ref 44), some (.int a1), some (.int a2), some (.int a3), some (.int (1 : Int32)), some (.int (99 : Int32)), none, none] dX8_as_94 (by decide) rfl rfl ?_
        refine QW.iconst (0 : Int32) rfl dX8_as_96 ?_
        refine QW.istore [some (.ref 44), some (.int a1), some (.int a2), some (.int a3), some (.int (1 : Int32)), some (.int (99 : Int32)), some (.int (0 : Int32)), none] dX8_as_97 (by decide) rfl rfl ?_
        exact QW.sub (by exact ⟨rfl, ⟨rfl, ⟨rfl, ⟨rfl, trivial⟩⟩⟩⟩) vc
      · replace vc := vc.2 hc
        refine QW.bipush (-4 : Int32) rfl dX8_as_89 ?_
        exact FW.ret dX8_as_91 rfl vc
theorem vX8_as_99 {g : QG} {K : Int32 → Hp → Prop} {h : Hp} {a1 a5 a6 : Int32} (vc : ((h 44 6) ≤ a6 → (¬ a5 = (99 : Int32) → K ((100 : Int32) + a5) h) ∧ (a5 = (99 : Int32) → K (-1 : Int32) h)) ∧ (¬ (h 44 6) ≤ a6 → FI g mX8_has [.int (h 44 7), .int a6] h (fun x1 h1 => (x1 = 0 → FW g mX8_as 140 [some (.ref 44), some (.int a1), none, none, none, some (.int a5), some (.int a6), none] [.int (99 : Int32)] h1 (q_RI K)) ∧ (¬ x1 = 0 → vp_in ((3 : Int32) + a1) 81 ∧ FI g mX8_effort [.ref 44, .int a1, .int (h1 45 (((3 : Int32) + a1).toNatClampNeg)), .int a6] h1 (fun x2 h2 => FW g mX8_as 140 [some (.ref 44), some (.int a1), none, none, none, some (.int a5), some (.int a6), none] [.int x2] h2 (q_RI K)))))) : FW g mX8_as 99 [some (.ref 44), some (.int a1), none, none, none, some (.int a5), some (.int a6), none] [] h (q_RI K) := by
  refine QW.iload dX8_as_99 rfl ?_
  refine QW.aload_n dX8_as_101 rfl ?_
  refine FW.getI (h 44 6) dX8_as_102 lfX8_23 sI_44_6 rfl ?_
  refine QW.icmp_ge 164 dX8_as_105 rfl (fun hc => ?_) (fun hc => ?_)
  · replace vc := vc.1 hc
    refine QW.iload dX8_as_164 rfl ?_
    refine QW.bipush (99 : Int32) rfl dX8_as_166 ?_
    refine QW.icmp_ne 175 dX8_as_168 rfl (fun hc => ?_) (fun hc => ?_)
    · replace vc := vc.1 hc
      refine QW.bipush (100 : Int32) rfl dX8_as_175 ?_
      refine QW.iload dX8_as_177 rfl ?_
      refine QW.iadd dX8_as_179 ?_
      exact FW.ret dX8_as_180 rfl vc
    · replace vc := vc.2 hc
      refine QW.iconst (-1 : Int32) rfl dX8_as_171 ?_
      refine QW.goto 180 dX8_as_172 rfl ?_
      exact FW.ret dX8_as_180 rfl vc
  · replace vc := vc.2 hc
    refine QW.aload_n dX8_as_108 rfl ?_
    refine FW.getI (h 44 7) dX8_as_109 lfX8_154 sI_44_7 rfl ?_
    refine QW.iload dX8_as_112 rfl ?_
    refine FW.callSi [.int (h 44 7), .int a6] [] rfl dX8_as_114 lmX8_130 rfl ⟨Nat.le_of_ble_eq_true rfl, Nat.le_of_ble_eq_true rfl⟩ ⟨rfl, rfl⟩ (Nat.le_of_ble_eq_true rfl) (FI.mono (fun x1 h1 vc => ?_) vc)
    refine QW.if_eq 138 dX8_as_117 rfl (fun hc => ?_) (fun hc => ?_)
    · replace vc := vc.1 hc
      refine QW.bipush (99 : Int32) rfl dX8_as_138 ?_
      exact vc
    · replace vc := vc.2 hc
      refine QW.aload_n dX8_as_120 rfl ?_
      refine QW.iload_n dX8_as_121 rfl ?_
      refine QW.aload_n dX8_as_122 rfl ?_
      refine FW.getR dX8_as_123 lfX8_7 sR_44_0 ?_
      refine QW.iconst (3 : Int32) rfl dX8_as_126 ?_
      refine QW.iload_n dX8_as_127 rfl ?_
      refine QW.iadd dX8_as_128 ?_
      refine FW.iald (h1 45 (((3 : Int32) + a1).toNatClampNeg)) dX8_as_129 sA_45 vc.1 rfl ?_
      replace vc := vc.2
      refine QW.iload dX8_as_130 rfl ?_
      refine FW.callVi [.int a1, .int (h1 45 (((3 : Int32) + a1).toNatClampNeg)), .int a6] [] rfl dX8_as_132 lmX8_182 sC_44 rfl ⟨Nat.le_of_ble_eq_true rfl, Nat.le_of_ble_eq_true rfl⟩ ⟨rfl, rfl⟩ (Nat.le_of_ble_eq_true rfl) (FI.mono (fun x2 h2 vc => ?_) vc)
      refine QW.goto 140 dX8_as_135 rfl ?_
      exact vc
theorem vX8_as_140 {g : QG} {K : Int32 → Hp → Prop} {h : Hp} {a1 a5 a6 s0 : Int32} (vc : (a5 ≤ s0 → FW g mX8_as 99 [some (.ref 44), some (.int a1), none, none, none, some (.int a5), some (.int (a6 + (1 : Int32))), none] [] h (q_RI K)) ∧ (¬ a5 ≤ s0 → FW g mX8_as 99 [some (.ref 44), some (.int a1), none, none, none, some (.int s0), some (.int (a6 + (1 : Int32))), none] [] h (q_RI K))) : FW g mX8_as 140 [some (.ref 44), some (.int a1), none, none, none, some (.int a5), some (.int a6), none] [.int s0] h (q_RI K) := by
  refine QW.istore [some (.ref 44), some (.int a1), none, none, none, some (.int a5), some (.int a6), some (.int s0)] dX8_as_140 (by decide) rfl rfl ?_
  refine QW.iload dX8_as_142 rfl ?_
  refine QW.iload dX8_as_144 rfl ?_
  refine QW.icmp_ge 154 dX8_as_146 rfl (fun hc => ?_) (fun hc => ?_)
  · replace vc := vc.1 hc
    refine QW.iload dX8_as_154 rfl ?_
    refine QW.istore [some (.ref 44), some (.int a1), none, none, none, some (.int a5), some (.int a6), some (.int s0)] dX8_as_156 (by decide) rfl rfl ?_
    refine QW.iinc (a6 + (1 : Int32)) [some (.ref 44), some (.int a1), none, none, none, some (.int a5), some (.int (a6 + (1 : Int32))), some (.int s0)] dX8_as_158 rfl rfl (by decide) rfl rfl ?_
    refine QW.goto 99 dX8_as_161 rfl ?_
    exact QW.sub (by exact ⟨rfl, ⟨rfl, ⟨rfl, ⟨rfl, trivial⟩⟩⟩⟩) vc
  · replace vc := vc.2 hc
    refine QW.iload dX8_as_149 rfl ?_
    refine QW.goto 156 dX8_as_151 rfl ?_
    refine QW.istore [some (.ref 44), some (.int a1), none, none, none, some (.int s0), some (.int a6), some (.int s0)] dX8_as_156 (by decide) rfl rfl ?_
    refine QW.iinc (a6 + (1 : Int32)) [some (.ref 44), some (.int a1), none, none, none, some (.int s0), some (.int (a6 + (1 : Int32))), some (.int s0)] dX8_as_158 rfl rfl (by decide) rfl rfl ?_
    refine QW.goto 99 dX8_as_161 rfl ?_
    exact QW.sub (by exact ⟨rfl, ⟨rfl, ⟨rfl, ⟨rfl, trivial⟩⟩⟩⟩) vc
theorem vX7_play_0 {g : QG} {K : Int32 → Hp → Prop} {h : Hp} (vc : ((h 26 1) = 0 → FV g mX0_getUp [.ref 26] h (fun h1 => K (h1 26 0) h1)) ∧ (¬ (h 26 1) = 0 → K (-4 : Int32) h)) : FW g mX7_play 0 [some (.ref 0)] [] h (q_RI K) := by
  refine QW.aload_n dX7_play_0 rfl ?_
  refine FW.getR dX7_play_1 lfX7_53 sR_0_5 ?_
  refine FW.getI (h 26 1) dX7_play_4 lfX7_156 sI_26_1 rfl ?_
  refine QW.if_eq 13 dX7_play_7 rfl (fun hc => ?_) (fun hc => ?_)
  · replace vc := vc.1 hc
    refine QW.aload_n dX7_play_13 rfl ?_
    refine FW.getR dX7_play_14 lfX7_53 sR_0_5 ?_
    refine FW.callVv [] [] rfl dX7_play_17 lmX7_190 sC_26 rfl ⟨Nat.le_of_ble_eq_true rfl, Nat.le_of_ble_eq_true rfl⟩ ⟨rfl, rfl⟩ (Nat.le_of_ble_eq_true rfl) (FV.mono (fun h1 vc => ?_) vc)
    refine QW.aload_n dX7_play_20 rfl ?_
    refine FW.getR dX7_play_21 lfX7_53 sR_0_5 ?_
    refine FW.getI (h1 26 0) dX7_play_24 lfX7_159 sI_26_0 rfl ?_
    exact FW.ret dX7_play_27 rfl vc
  · replace vc := vc.2 hc
    refine QW.bipush (-4 : Int32) rfl dX7_play_10 ?_
    exact FW.ret dX7_play_12 rfl vc
theorem vX7_keep_0 {g : QG} {K : Int32 → Hp → Prop} {h : Hp} {a1 : Int32} (vc : FI g mX7_isEither [.int a1] h (fun x1 h1 => (¬ x1 = 0 → (¬ a1 = 0 → FV g mX0_copyFrom [.ref 36, .ref 26] h1 (fun h2 => K (h2 26 0) (q_up h2 36 2 (1 : Int32)))) ∧ (a1 = 0 → FV g mX0_copyFrom [.ref 31, .ref 26] h1 (fun h3 => K (h3 26 0) (q_up h3 31 2 (1 : Int32))))) ∧ (x1 = 0 → K (-2 : Int32) h1))) : FW g mX7_keep 0 [some (.ref 0), some (.int a1), none] [] h (q_RI K) := by
  refine QW.iload_n dX7_keep_0 rfl ?_
  refine FW.callSi [.int a1] [] rfl dX7_keep_1 lmX7_193 rfl ⟨Nat.le_of_ble_eq_true rfl, Nat.le_of_ble_eq_true rfl⟩ ⟨rfl, rfl⟩ (Nat.le_of_ble_eq_true rfl) (FI.mono (fun x1 h1 vc => ?_) vc)
  refine QW.if_ne 10 dX7_keep_4 rfl (fun hc => ?_) (fun hc => ?_)
  · replace vc := vc.1 hc
    refine QW.iload_n dX7_keep_10 rfl ?_
    refine QW.if_ne 21 dX7_keep_11 rfl (fun hc => ?_) (fun hc => ?_)
    · replace vc := vc.1 hc
      refine QW.aload_n dX7_keep_21 rfl ?_
      refine FW.getR dX7_keep_22 lfX7_60 sR_0_7 ?_
      refine QW.astore_n [some (.ref 0), some (.int a1), some (.ref 36)] dX7_keep_25 (by decide) rfl rfl ?_
      refine QW.aload_n dX7_keep_26 rfl ?_
      refine QW.aload_n dX7_keep_27 rfl ?_
      refine FW.getR dX7_keep_28 lfX7_53 sR_0_5 ?_
      refine FW.callVv [.ref 26] [] rfl dX7_keep_31 lmX7_196 sC_36 rfl ⟨Nat.le_of_ble_eq_true rfl, Nat.le_of_ble_eq_true rfl⟩ ⟨rfl, rfl⟩ (Nat.le_of_ble_eq_true rfl) (FV.mono (fun h2 vc => ?_) vc)
      refine QW.aload_n dX7_keep_34 rfl ?_
      refine QW.iconst (1 : Int32) rfl dX7_keep_35 ?_
      refine FW.putZ (Or.inr rfl) dX7_keep_36 lfX7_93 sP_36_2 ?_
      refine QW.aload_n dX7_keep_39 rfl ?_
      refine FW.getR dX7_keep_40 lfX7_53 sR_0_5 ?_
      refine FW.getI (h2 26 0) dX7_keep_43 lfX7_159 sI_26_0 rfl ?_
      exact FW.ret dX7_keep_46 rfl vc
    · replace vc := vc.2 hc
      refine QW.aload_n dX7_keep_14 rfl ?_
      refine FW.getR dX7_keep_15 lfX7_57 sR_0_6 ?_
      refine QW.goto 25 dX7_keep_18 rfl ?_
      refine QW.astore_n [some (.ref 0), some (.int a1), some (.ref 31)] dX7_keep_25 (by decide) rfl rfl ?_
      refine QW.aload_n dX7_keep_26 rfl ?_
      refine QW.aload_n dX7_keep_27 rfl ?_
      refine FW.getR dX7_keep_28 lfX7_53 sR_0_5 ?_
      refine FW.callVv [.ref 26] [] rfl dX7_keep_31 lmX7_196 sC_31 rfl ⟨Nat.le_of_ble_eq_true rfl, Nat.le_of_ble_eq_true rfl⟩ ⟨rfl, rfl⟩ (Nat.le_of_ble_eq_true rfl) (FV.mono (fun h3 vc => ?_) vc)
      refine QW.aload_n dX7_keep_34 rfl ?_
      refine QW.iconst (1 : Int32) rfl dX7_keep_35 ?_
      refine FW.putZ (Or.inr rfl) dX7_keep_36 lfX7_93 sP_31_2 ?_
      refine QW.aload_n dX7_keep_39 rfl ?_
      refine FW.getR dX7_keep_40 lfX7_53 sR_0_5 ?_
      refine FW.getI (h3 26 0) dX7_keep_43 lfX7_159 sI_26_0 rfl ?_
      exact FW.ret dX7_keep_46 rfl vc
  · replace vc := vc.2 hc
    refine QW.bipush (-2 : Int32) rfl dX7_keep_7 ?_
    exact FW.ret dX7_keep_9 rfl vc
theorem vX7_back_0 {g : QG} {K : Int32 → Hp → Prop} {h : Hp} {a1 : Int32} (vc : FI g mX7_isEither [.int a1] h (fun x1 h1 => (¬ x1 = 0 → (¬ a1 = 0 → (¬ (h1 36 2) = 0 → FV g mX0_copyFrom [.ref 26, .ref 36] h1 (fun h2 => K (h2 26 0) h2)) ∧ ((h1 36 2) = 0 → K (-4 : Int32) h1)) ∧ (a1 = 0 → (¬ (h1 31 2) = 0 → FV g mX0_copyFrom [.ref 26, .ref 31] h1 (fun h3 => K (h3 26 0) h3)) ∧ ((h1 31 2) = 0 → K (-4 : Int32) h1))) ∧ (x1 = 0 → K (-2 : Int32) h1))) : FW g mX7_back 0 [some (.ref 0), some (.int a1), none] [] h (q_RI K) := by
  refine QW.iload_n dX7_back_0 rfl ?_
  refine FW.callSi [.int a1] [] rfl dX7_back_1 lmX7_193 rfl ⟨Nat.le_of_ble_eq_true rfl, Nat.le_of_ble_eq_true rfl⟩ ⟨rfl, rfl⟩ (Nat.le_of_ble_eq_true rfl) (FI.mono (fun x1 h1 vc => ?_) vc)
  refine QW.if_ne 10 dX7_back_4 rfl (fun hc => ?_) (fun hc => ?_)
  · replace vc := vc.1 hc
    refine QW.iload_n dX7_back_10 rfl ?_
    refine QW.if_ne 21 dX7_back_11 rfl (fun hc => ?_) (fun hc => ?_)
    · replace vc := vc.1 hc
      refine QW.aload_n dX7_back_21 rfl ?_
      refine FW.getR dX7_back_22 lfX7_60 sR_0_7 ?_
      refine QW.astore_n [some (.ref 0), some (.int a1), some (.ref 36)] dX7_back_25 (by decide) rfl rfl ?_
      refine QW.aload_n dX7_back_26 rfl ?_
      refine FW.getI (h1 36 2) dX7_back_27 lfX7_93 sI_36_2 rfl ?_
      refine QW.if_ne 36 dX7_back_30 rfl (fun hc => ?_) (fun hc => ?_)
      · replace vc := vc.1 hc
        refine QW.aload_n dX7_back_36 rfl ?_
        refine FW.getR dX7_back_37 lfX7_53 sR_0_5 ?_
        refine QW.aload_n dX7_back_40 rfl ?_
        refine FW.callVv [.ref 36] [] rfl dX7_back_41 lmX7_196 sC_26 rfl ⟨Nat.le_of_ble_eq_true rfl, Nat.le_of_ble_eq_true rfl⟩ ⟨rfl, rfl⟩ (Nat.le_of_ble_eq_true rfl) (FV.mono (fun h2 vc => ?_) vc)
        refine QW.aload_n dX7_back_44 rfl ?_
        refine FW.getR dX7_back_45 lfX7_53 sR_0_5 ?_
        refine FW.getI (h2 26 0) dX7_back_48 lfX7_159 sI_26_0 rfl ?_
        exact FW.ret dX7_back_51 rfl vc
      · replace vc := vc.2 hc
        refine QW.bipush (-4 : Int32) rfl dX7_back_33 ?_
        exact FW.ret dX7_back_35 rfl vc
    · replace vc := vc.2 hc
      refine QW.aload_n dX7_back_14 rfl ?_
      refine FW.getR dX7_back_15 lfX7_57 sR_0_6 ?_
      refine QW.goto 25 dX7_back_18 rfl ?_
      refine QW.astore_n [some (.ref 0), some (.int a1), some (.ref 31)] dX7_back_25 (by decide) rfl rfl ?_
      refine QW.aload_n dX7_back_26 rfl ?_
      refine FW.getI (h1 31 2) dX7_back_27 lfX7_93 sI_31_2 rfl ?_
      refine QW.if_ne 36 dX7_back_30 rfl (fun hc => ?_) (fun hc => ?_)
      · replace vc := vc.1 hc
        refine QW.aload_n dX7_back_36 rfl ?_
        refine FW.getR dX7_back_37 lfX7_53 sR_0_5 ?_
        refine QW.aload_n dX7_back_40 rfl ?_
        refine FW.callVv [.ref 31] [] rfl dX7_back_41 lmX7_196 sC_26 rfl ⟨Nat.le_of_ble_eq_true rfl, Nat.le_of_ble_eq_true rfl⟩ ⟨rfl, rfl⟩ (Nat.le_of_ble_eq_true rfl) (FV.mono (fun h3 vc => ?_) vc)
        refine QW.aload_n dX7_back_44 rfl ?_
        refine FW.getR dX7_back_45 lfX7_53 sR_0_5 ?_
        refine FW.getI (h3 26 0) dX7_back_48 lfX7_159 sI_26_0 rfl ?_
        exact FW.ret dX7_back_51 rfl vc
      · replace vc := vc.2 hc
        refine QW.bipush (-4 : Int32) rfl dX7_back_33 ?_
        exact FW.ret dX7_back_35 rfl vc
  · replace vc := vc.2 hc
    refine QW.bipush (-2 : Int32) rfl dX7_back_7 ?_
    exact FW.ret dX7_back_9 rfl vc
theorem vX8_seen_0 {g : QG} {K : Int32 → Hp → Prop} {h : Hp} {a1 a2 : Int32} (vc : FI g mX8_isGuest [.ref 44, .int a1] h (fun x1 h1 => (¬ x1 = 0 → FI g mX8_in [.long a2.toInt64, .long (0 : Int64), .long (1 : Int64)] h1 (fun x2 h2 => (¬ x2 = 0 → (¬ (h2 44 30) = (6 : Int32) → vp_in ((2 : Int32) * (h2 44 30)) 12 ∧ vp_in (((2 : Int32) * (h2 44 30)) + (1 : Int32)) 12 ∧ K ((h2 44 30) + (1 : Int32)) (q_up (q_up (q_up h2 60 (((2 : Int32) * (h2 44 30)).toNatClampNeg) a1) 60 ((((2 : Int32) * (h2 44 30)) + (1 : Int32)).toNatClampNeg) a2) 44 30 ((h2 44 30) + (1 : Int32)))) ∧ ((h2 44 30) = (6 : Int32) → K (-5 : Int32) h2)) ∧ (x2 = 0 → K (-3 : Int32) h2))) ∧ (x1 = 0 → K (-2 : Int32) h1))) : FW g mX8_seen 0 [some (.ref 44), some (.int a1), some (.int a2)] [] h (q_RI K) := by
  refine QW.aload_n dX8_seen_0 rfl ?_
  refine QW.iload_n dX8_seen_1 rfl ?_
  refine FW.callVi [.int a1] [] rfl dX8_seen_2 lmX8_173 sC_44 rfl ⟨Nat.le_of_ble_eq_true rfl, Nat.le_of_ble_eq_true rfl⟩ ⟨rfl, rfl⟩ (Nat.le_of_ble_eq_true rfl) (FI.mono (fun x1 h1 vc => ?_) vc)
  refine QW.if_ne 11 dX8_seen_5 rfl (fun hc => ?_) (fun hc => ?_)
  · replace vc := vc.1 hc
    refine QW.iload_n dX8_seen_11 rfl ?_
    refine QW.i2l dX8_seen_12 ?_
    refine QW.lconst (0 : Int64) rfl dX8_seen_13 ?_
    refine QW.lconst (1 : Int64) rfl dX8_seen_14 ?_
    refine FW.callSi [.long a2.toInt64, .long (0 : Int64), .long (1 : Int64)] [] rfl dX8_seen_15 lmX8_70 rfl ⟨Nat.le_of_ble_eq_true rfl, Nat.le_of_ble_eq_true rfl⟩ ⟨rfl, rfl⟩ (Nat.le_of_ble_eq_true rfl) (FI.mono (fun x2 h2 vc => ?_) vc)
    refine QW.if_ne 24 dX8_seen_18 rfl (fun hc => ?_) (fun hc => ?_)
    · replace vc := vc.1 hc
      refine QW.aload_n dX8_seen_24 rfl ?_
      refine FW.getI (h2 44 30) dX8_seen_25 lfX8_167 sI_44_30 rfl ?_
      refine QW.bipush (6 : Int32) rfl dX8_seen_28 ?_
      refine QW.icmp_ne 36 dX8_seen_30 rfl (fun hc => ?_) (fun hc => ?_)
      · replace vc := vc.1 hc
        refine QW.aload_n dX8_seen_36 rfl ?_
        refine FW.getR dX8_seen_37 lfX8_60 sR_44_29 ?_
        refine QW.iconst (2 : Int32) rfl dX8_seen_40 ?_
        refine QW.aload_n dX8_seen_41 rfl ?_
        refine FW.getI (h2 44 30) dX8_seen_42 lfX8_167 sI_44_30 rfl ?_
        refine QW.imul dX8_seen_45 ?_
        refine QW.iload_n dX8_seen_46 rfl ?_
        refine FW.iast dX8_seen_47 sA_60 vc.1 ?_
        replace vc := vc.2
        refine QW.aload_n dX8_seen_48 rfl ?_
        refine FW.getR dX8_seen_49 lfX8_60 sR_44_29 ?_
        refine QW.iconst (2 : Int32) rfl dX8_seen_52 ?_
        refine QW.aload_n dX8_seen_53 rfl ?_
        refine FW.getI (h2 44 30) dX8_seen_54 lfX8_167 sI_44_30 rfl ?_
        refine QW.imul dX8_seen_57 ?_
        refine QW.iconst (1 : Int32) rfl dX8_seen_58 ?_
        refine QW.iadd dX8_seen_59 ?_
        refine QW.iload_n dX8_seen_60 rfl ?_
        refine FW.iast dX8_seen_61 sA_60 vc.1 ?_
        replace vc := vc.2
        refine QW.aload_n dX8_seen_62 rfl ?_
        refine QW.dupr dX8_seen_63 ?_
        refine FW.getI (h2 44 30) dX8_seen_64 lfX8_167 sI_44_30 rfl ?_
        refine QW.iconst (1 : Int32) rfl dX8_seen_67 ?_
        refine QW.iadd dX8_seen_68 ?_
        refine FW.putI dX8_seen_69 lfX8_167 sP_44_30 ?_
        refine QW.aload_n dX8_seen_72 rfl ?_
        refine FW.getI ((h2 44 30) + (1 : Int32)) dX8_seen_73 lfX8_167 sI_44_30 rfl ?_
        exact FW.ret dX8_seen_76 rfl vc
      · replace vc := vc.2 hc
        refine QW.bipush (-5 : Int32) rfl dX8_seen_33 ?_
        exact FW.ret dX8_seen_35 rfl vc
    · replace vc := vc.2 hc
      refine QW.bipush (-3 : Int32) rfl dX8_seen_21 ?_
      exact FW.ret dX8_seen_23 rfl vc
  · replace vc := vc.2 hc
    refine QW.bipush (-2 : Int32) rfl dX8_seen_8 ?_
    exact FW.ret dX8_seen_10 rfl vc
theorem vX0_begin_0 {g : QG} {K : Hp → Prop} {h : Hp} (vc : FV g mJ7_fill_53178 [.ref 30, .int (0 : Int32)] (q_upA (q_up h 26 0 (0 : Int32)) 27 (va_cpy (h 3) (h 27) 0 0 6)) (fun h1 => FV g mX0_getUp [.ref 26] h1 (fun h2 => K h2))) : FW g mX0_begin 0 [some (.ref 26), some (.ref 1)] [] h (q_RV K) := by
  refine QW.aload_n dX0_begin_0 rfl ?_
  refine QW.iconst (0 : Int32) rfl dX0_begin_1 ?_
  refine FW.putI dX0_begin_2 lfX0_34 sP_26_0 ?_
  refine QW.aload_n dX0_begin_5 rfl ?_
  refine FW.getR dX0_begin_6 lfX0_38 sR_1_4 ?_
  refine QW.iconst (0 : Int32) rfl dX0_begin_9 ?_
  refine QW.aload_n dX0_begin_10 rfl ?_
  refine FW.getR dX0_begin_11 lfX0_15 sR_26_4 ?_
  refine QW.iconst (0 : Int32) rfl dX0_begin_14 ?_
  refine QW.bipush (6 : Int32) rfl dX0_begin_15 ?_
  refine FW.copy dX0_begin_17 lyX0_43 sA_3 sA_27 (by decide) (Nat.le_of_ble_eq_true rfl) (by decide) ?_
  refine QW.aload_n dX0_begin_20 rfl ?_
  refine FW.getR dX0_begin_21 lfX0_25 sR_26_7 ?_
  refine QW.iconst (0 : Int32) rfl dX0_begin_24 ?_
  refine FW.callSv [.ref 30, .int (0 : Int32)] [] rfl dX0_begin_25 lmX0_28 rfl ⟨Nat.le_of_ble_eq_true rfl, Nat.le_of_ble_eq_true rfl⟩ ⟨rfl, rfl⟩ (Nat.le_of_ble_eq_true rfl) (FV.mono (fun h1 vc => ?_) vc)
  refine QW.aload_n dX0_begin_28 rfl ?_
  refine FW.callVv [] [] rfl dX0_begin_29 lmX0_49 sC_26 rfl ⟨Nat.le_of_ble_eq_true rfl, Nat.le_of_ble_eq_true rfl⟩ ⟨rfl, rfl⟩ (Nat.le_of_ble_eq_true rfl) (FV.mono (fun h2 vc => ?_) vc)
  exact FW.retV dX0_begin_32 rfl vc
theorem vX6_nearestChair_0 {g : QG} {K : Int32 → Hp → Prop} {h : Hp} {a1 : Int32} (vc : FW g mX6_nearestChair 2 [some (.ref 1), some (.int a1), some (.int (0 : Int32))] [] h (q_RI K)) : FW g mX6_nearestChair 0 [some (.ref 1), some (.int a1), none] [] h (q_RI K) := by
  refine QW.iconst (0 : Int32) rfl dX6_nearestChair_0 ?_
  refine QW.istore_n [some (.ref 1), some (.int a1), some (.int (0 : Int32))] dX6_nearestChair_1 (by decide) rfl rfl ?_
  exact vc
theorem vX6_nearestChair_2 {g : QG} {K : Int32 → Hp → Prop} {h : Hp} {a1 a2 : Int32} (vc : FI g mX6_farthest [.ref 1] h (fun x1 h1 => (x1 < a2 → K (-1 : Int32) h1) ∧ (¬ x1 < a2 → FI g mX6_leastAt [.ref 1, .int a1, .int a2, .int (h1 1 1)] h1 (fun x2 h2 => (x2 = (-1 : Int32) → FW g mX6_nearestChair 2 [some (.ref 1), some (.int a1), some (.int (a2 + (1 : Int32)))] [] h2 (q_RI K)) ∧ (¬ x2 = (-1 : Int32) → K a2 h2))))) : FW g mX6_nearestChair 2 [some (.ref 1), some (.int a1), some (.int a2)] [] h (q_RI K) := by
  refine QW.iload_n dX6_nearestChair_2 rfl ?_
  refine QW.aload_n dX6_nearestChair_3 rfl ?_
  refine FW.callVi [] [.int a2] rfl dX6_nearestChair_4 lmX6_61 sC_1 rfl ⟨Nat.le_of_ble_eq_true rfl, Nat.le_of_ble_eq_true rfl⟩ ⟨rfl, rfl⟩ (Nat.le_of_ble_eq_true rfl) (FI.mono (fun x1 h1 vc => ?_) vc)
  refine QW.icmp_gt 32 dX6_nearestChair_7 rfl (fun hc => ?_) (fun hc => ?_)
  · replace vc := vc.1 hc
    refine QW.iconst (-1 : Int32) rfl dX6_nearestChair_32 ?_
    exact FW.ret dX6_nearestChair_33 rfl vc
  · replace vc := vc.2 hc
    refine QW.aload_n dX6_nearestChair_10 rfl ?_
    refine QW.iload_n dX6_nearestChair_11 rfl ?_
    refine QW.iload_n dX6_nearestChair_12 rfl ?_
    refine QW.aload_n dX6_nearestChair_13 rfl ?_
    refine FW.getI (h1 1 1) dX6_nearestChair_14 lfX6_31 sI_1_1 rfl ?_
    refine FW.callVi [.int a1, .int a2, .int (h1 1 1)] [] rfl dX6_nearestChair_17 lmX6_64 sC_1 rfl ⟨Nat.le_of_ble_eq_true rfl, Nat.le_of_ble_eq_true rfl⟩ ⟨rfl, rfl⟩ (Nat.le_of_ble_eq_true rfl) (FI.mono (fun x2 h2 vc => ?_) vc)
    refine QW.iconst (-1 : Int32) rfl dX6_nearestChair_20 ?_
    refine QW.icmp_eq 26 dX6_nearestChair_21 rfl (fun hc => ?_) (fun hc => ?_)
    · replace vc := vc.1 hc
      refine QW.iinc (a2 + (1 : Int32)) [some (.ref 1), some (.int a1), some (.int (a2 + (1 : Int32)))] dX6_nearestChair_26 rfl rfl (by decide) rfl rfl ?_
      refine QW.goto 2 dX6_nearestChair_29 rfl ?_
      exact vc
    · replace vc := vc.2 hc
      refine QW.iload_n dX6_nearestChair_24 rfl ?_
      exact FW.ret dX6_nearestChair_25 rfl vc
theorem vX0_goOn_0 {g : QG} {K : Hp → Prop} {h : Hp} {a2 : Int32} (vc : FW g mX0_goOn 12 [some (.ref 26), some (.ref 1), some (.int a2), some (.int (0 : Int32))] [] (q_up h 26 0 ((h 26 0) + a2)) (q_RV K)) : FW g mX0_goOn 0 [some (.ref 26), some (.ref 1), some (.int a2), none] [] h (q_RV K) := by
  refine QW.aload_n dX0_goOn_0 rfl ?_
  refine QW.dupr dX0_goOn_1 ?_
  refine FW.getI (h 26 0) dX0_goOn_2 lfX0_34 sI_26_0 rfl ?_
  refine QW.iload_n dX0_goOn_5 rfl ?_
  refine QW.iadd dX0_goOn_6 ?_
  refine FW.putI dX0_goOn_7 lfX0_34 sP_26_0 ?_
  refine QW.iconst (0 : Int32) rfl dX0_goOn_10 ?_
  refine QW.istore_n [some (.ref 26), some (.ref 1), some (.int a2), some (.int (0 : Int32))] dX0_goOn_11 (by decide) rfl rfl ?_
  exact vc
theorem vX0_goOn_12 {g : QG} {K : Hp → Prop} {h : Hp} {a2 a3 : Int32} (vc : ((h 1 2) ≤ a3 → K h) ∧ (¬ (h 1 2) ≤ a3 → vp_in a3 6 ∧ vp_in a3 6 ∧ vp_in a3 6 ∧ FI g mX6_placeAfter [.ref 1, .int (h 27 a3.toNatClampNeg), .int ((h 4 a3.toNatClampNeg) * a2), .int (h 5 a3.toNatClampNeg)] h (fun x1 h1 => vp_in a3 6 ∧ FW g mX0_goOn 12 [some (.ref 26), some (.ref 1), some (.int a2), some (.int (a3 + (1 : Int32)))] [] (q_up h1 27 a3.toNatClampNeg x1) (q_RV K)))) : FW g mX0_goOn 12 [some (.ref 26), some (.ref 1), some (.int a2), some (.int a3)] [] h (q_RV K) := by
  refine QW.iload_n dX0_goOn_12 rfl ?_
  refine QW.aload_n dX0_goOn_13 rfl ?_
  refine FW.getI (h 1 2) dX0_goOn_14 lfX0_55 sI_1_2 rfl ?_
  refine QW.icmp_ge 56 dX0_goOn_17 rfl (fun hc => ?_) (fun hc => ?_)
  · replace vc := vc.1 hc
    exact FW.retV dX0_goOn_56 rfl vc
  · replace vc := vc.2 hc
    refine QW.aload_n dX0_goOn_20 rfl ?_
    refine FW.getR dX0_goOn_21 lfX0_15 sR_26_4 ?_
    refine QW.iload_n dX0_goOn_24 rfl ?_
    refine QW.aload_n dX0_goOn_25 rfl ?_
    refine QW.aload_n dX0_goOn_26 rfl ?_
    refine FW.getR dX0_goOn_27 lfX0_15 sR_26_4 ?_
    refine QW.iload_n dX0_goOn_30 rfl ?_
    refine FW.iald (h 27 a3.toNatClampNeg) dX0_goOn_31 sA_27 vc.1 rfl ?_
    replace vc := vc.2
    refine QW.aload_n dX0_goOn_32 rfl ?_
    refine FW.getR dX0_goOn_33 lfX0_58 sR_1_5 ?_
    refine QW.iload_n dX0_goOn_36 rfl ?_
    refine FW.iald (h 4 a3.toNatClampNeg) dX0_goOn_37 sA_4 vc.1 rfl ?_
    replace vc := vc.2
    refine QW.iload_n dX0_goOn_38 rfl ?_
    refine QW.imul dX0_goOn_39 ?_
    refine QW.aload_n dX0_goOn_40 rfl ?_
    refine FW.getR dX0_goOn_41 lfX0_61 sR_1_6 ?_
    refine QW.iload_n dX0_goOn_44 rfl ?_
    refine FW.iald (h 5 a3.toNatClampNeg) dX0_goOn_45 sA_5 vc.1 rfl ?_
    replace vc := vc.2
    refine FW.callVi [.int (h 27 a3.toNatClampNeg), .int ((h 4 a3.toNatClampNeg) * a2), .int (h 5 a3.toNatClampNeg)] [.int a3, .ref 27] rfl dX0_goOn_46 lmX0_64 sC_1 rfl ⟨Nat.le_of_ble_eq_true rfl, Nat.le_of_ble_eq_true rfl⟩ ⟨rfl, rfl⟩ (Nat.le_of_ble_eq_true rfl) (FI.mono (fun x1 h1 vc => ?_) vc)
    refine FW.iast dX0_goOn_49 sA_27 vc.1 ?_
    replace vc := vc.2
    refine QW.iinc (a3 + (1 : Int32)) [some (.ref 26), some (.ref 1), some (.int a2), some (.int (a3 + (1 : Int32)))] dX0_goOn_50 rfl rfl (by decide) rfl rfl ?_
    refine QW.goto 12 dX0_goOn_53 rfl ?_
    exact vc
theorem vX8_isSpan_0 {g : QG} {K : Int32 → Hp → Prop} {h : Hp} {a0 a1 : Int32} (vc : FI g mX8_isTime [.int a0] h (fun x1 h1 => (x1 = 0 → K (0 : Int32) h1) ∧ (¬ x1 = 0 → FI g mX8_isTime [.int a1] h1 (fun x2 h2 => (x2 = 0 → K (0 : Int32) h2) ∧ (¬ x2 = 0 → (a1 < a0 → K (0 : Int32) h2) ∧ (¬ a1 < a0 → K (1 : Int32) h2)))))) : FW g mX8_isSpan 0 [some (.int a0), some (.int a1)] [] h (q_RI K) := by
  refine QW.iload_n dX8_isSpan_0 rfl ?_
  refine FW.callSi [.int a0] [] rfl dX8_isSpan_1 lmX8_229 rfl ⟨Nat.le_of_ble_eq_true rfl, Nat.le_of_ble_eq_true rfl⟩ ⟨rfl, rfl⟩ (Nat.le_of_ble_eq_true rfl) (FI.mono (fun x1 h1 vc => ?_) vc)
  refine QW.if_eq 23 dX8_isSpan_4 rfl (fun hc => ?_) (fun hc => ?_)
  · replace vc := vc.1 hc
    refine QW.iconst (0 : Int32) rfl dX8_isSpan_23 ?_
    exact FW.retZ (Or.inl rfl) dX8_isSpan_24 rfl vc
  · replace vc := vc.2 hc
    refine QW.iload_n dX8_isSpan_7 rfl ?_
    refine FW.callSi [.int a1] [] rfl dX8_isSpan_8 lmX8_229 rfl ⟨Nat.le_of_ble_eq_true rfl, Nat.le_of_ble_eq_true rfl⟩ ⟨rfl, rfl⟩ (Nat.le_of_ble_eq_true rfl) (FI.mono (fun x2 h2 vc => ?_) vc)
    refine QW.if_eq 23 dX8_isSpan_11 rfl (fun hc => ?_) (fun hc => ?_)
    · replace vc := vc.1 hc
      refine QW.iconst (0 : Int32) rfl dX8_isSpan_23 ?_
      exact FW.retZ (Or.inl rfl) dX8_isSpan_24 rfl vc
    · replace vc := vc.2 hc
      refine QW.iload_n dX8_isSpan_14 rfl ?_
      refine QW.iload_n dX8_isSpan_15 rfl ?_
      refine QW.icmp_lt 23 dX8_isSpan_16 rfl (fun hc => ?_) (fun hc => ?_)
      · replace vc := vc.1 hc
        refine QW.iconst (0 : Int32) rfl dX8_isSpan_23 ?_
        exact FW.retZ (Or.inl rfl) dX8_isSpan_24 rfl vc
      · replace vc := vc.2 hc
        refine QW.iconst (1 : Int32) rfl dX8_isSpan_19 ?_
        refine QW.goto 24 dX8_isSpan_20 rfl ?_
        exact FW.retZ (Or.inr rfl) dX8_isSpan_24 rfl vc
theorem vX8_wordOf_0 {g : QG} {K : Int32 → Hp → Prop} {h : Hp} (vc : FI g mX8_guestWord [.ref 44] h (fun x1 h1 => (x1 = (-1 : Int32) → FI g mX8_isWord [.ref 44, .int (14793 : Int32), .int (3 : Int32)] h1 (fun x2 h2 => (x2 = 0 → FI g mX8_isWord [.ref 44, .int (19170563 : Int32), .int (5 : Int32)] h2 (fun x3 h3 => (x3 = 0 → FI g mX8_isWord [.ref 44, .int (175156 : Int32), .int (4 : Int32)] h3 (fun x4 h4 => (x4 = 0 → FI g mX8_isWord [.ref 44, .int (843549166 : Int32), .int (6 : Int32)] h4 (fun x5 h5 => (x5 = 0 → K (-1 : Int32) h5) ∧ (¬ x5 = 0 → K (7 : Int32) h5))) ∧ (¬ x4 = 0 → K (2 : Int32) h4))) ∧ (¬ x3 = 0 → K (1 : Int32) h3))) ∧ (¬ x2 = 0 → K (0 : Int32) h2))) ∧ (¬ x1 = (-1 : Int32) → K x1 h1))) : FW g mX8_wordOf 0 [some (.ref 44), none] [] h (q_RI K) := by
  refine QW.aload_n dX8_wordOf_0 rfl ?_
  refine FW.callVi [] [] rfl dX8_wordOf_1 lmX8_104 sC_44 rfl ⟨Nat.le_of_ble_eq_true rfl, Nat.le_of_ble_eq_true rfl⟩ ⟨rfl, rfl⟩ (Nat.le_of_ble_eq_true rfl) (FI.mono (fun x1 h1 vc => ?_) vc)
  refine QW.istore_n [some (.ref 44), some (.int x1)] dX8_wordOf_4 (by decide) rfl rfl ?_
  refine QW.iload_n dX8_wordOf_5 rfl ?_
  refine QW.iconst (-1 : Int32) rfl dX8_wordOf_6 ?_
  refine QW.icmp_eq 14 dX8_wordOf_7 rfl (fun hc => ?_) (fun hc => ?_)
  · replace vc := vc.1 hc
    refine QW.aload_n dX8_wordOf_14 rfl ?_
    refine QW.sipush (14793 : Int32) rfl dX8_wordOf_15 ?_
    refine QW.iconst (3 : Int32) rfl dX8_wordOf_18 ?_
    refine FW.callVi [.int (14793 : Int32), .int (3 : Int32)] [] rfl dX8_wordOf_19 lmX8_98 sC_44 rfl ⟨Nat.le_of_ble_eq_true rfl, Nat.le_of_ble_eq_true rfl⟩ ⟨rfl, rfl⟩ (Nat.le_of_ble_eq_true rfl) (FI.mono (fun x2 h2 vc => ?_) vc)
    refine QW.if_eq 29 dX8_wordOf_22 rfl (fun hc => ?_) (fun hc => ?_)
    · replace vc := vc.1 hc
      refine QW.aload_n dX8_wordOf_29 rfl ?_
      refine QW.ldc dX8_wordOf_30 lkX8_108 ?_
      refine QW.iconst (5 : Int32) rfl dX8_wordOf_32 ?_
      refine FW.callVi [.int (19170563 : Int32), .int (5 : Int32)] [] rfl dX8_wordOf_33 lmX8_98 sC_44 rfl ⟨Nat.le_of_ble_eq_true rfl, Nat.le_of_ble_eq_true rfl⟩ ⟨rfl, rfl⟩ (Nat.le_of_ble_eq_true rfl) (FI.mono (fun x3 h3 vc => ?_) vc)
      refine QW.if_eq 43 dX8_wordOf_36 rfl (fun hc => ?_) (fun hc => ?_)
      · replace vc := vc.1 hc
        refine QW.aload_n dX8_wordOf_43 rfl ?_
        refine QW.ldc dX8_wordOf_44 lkX8_109 ?_
        refine QW.iconst (4 : Int32) rfl dX8_wordOf_46 ?_
        refine FW.callVi [.int (175156 : Int32), .int (4 : Int32)] [] rfl dX8_wordOf_47 lmX8_98 sC_44 rfl ⟨Nat.le_of_ble_eq_true rfl, Nat.le_of_ble_eq_true rfl⟩ ⟨rfl, rfl⟩ (Nat.le_of_ble_eq_true rfl) (FI.mono (fun x4 h4 vc => ?_) vc)
        refine QW.if_eq 57 dX8_wordOf_50 rfl (fun hc => ?_) (fun hc => ?_)
        · replace vc := vc.1 hc
          refine QW.aload_n dX8_wordOf_57 rfl ?_
          refine QW.ldc dX8_wordOf_58 lkX8_110 ?_
          refine QW.bipush (6 : Int32) rfl dX8_wordOf_60 ?_
          refine FW.callVi [.int (843549166 : Int32), .int (6 : Int32)] [] rfl dX8_wordOf_62 lmX8_98 sC_44 rfl ⟨Nat.le_of_ble_eq_true rfl, Nat.le_of_ble_eq_true rfl⟩ ⟨rfl, rfl⟩ (Nat.le_of_ble_eq_true rfl) (FI.mono (fun x5 h5 vc => ?_) vc)
          refine QW.if_eq 73 dX8_wordOf_65 rfl (fun hc => ?_) (fun hc => ?_)
          · replace vc := vc.1 hc
            refine QW.iconst (-1 : Int32) rfl dX8_wordOf_73 ?_
            exact FW.ret dX8_wordOf_74 rfl vc
          · replace vc := vc.2 hc
            refine QW.bipush (7 : Int32) rfl dX8_wordOf_68 ?_
            refine QW.goto 74 dX8_wordOf_70 rfl ?_
            exact FW.ret dX8_wordOf_74 rfl vc
        · replace vc := vc.2 hc
          refine QW.iconst (2 : Int32) rfl dX8_wordOf_53 ?_
          refine QW.goto 74 dX8_wordOf_54 rfl ?_
          exact FW.ret dX8_wordOf_74 rfl vc
      · replace vc := vc.2 hc
        refine QW.iconst (1 : Int32) rfl dX8_wordOf_39 ?_
        refine QW.goto 74 dX8_wordOf_40 rfl ?_
        exact FW.ret dX8_wordOf_74 rfl vc
    · replace vc := vc.2 hc
      refine QW.iconst (0 : Int32) rfl dX8_wordOf_25 ?_
      refine QW.goto 74 dX8_wordOf_26 rfl ?_
      exact FW.ret dX8_wordOf_74 rfl vc
  · replace vc := vc.2 hc
    refine QW.iload_n dX8_wordOf_10 rfl ?_
    refine QW.goto 74 dX8_wordOf_11 rfl ?_
    exact FW.ret dX8_wordOf_74 rfl vc
theorem vX2_goTo_0 {g : QG} {K : Hp → Prop} {h : Hp} {a1 : Int32} (vc : FW g mX2_goTo 2 [some (.ref 20), some (.int a1), some (.int (0 : Int32))] [] h (q_RV K)) : FW g mX2_goTo 0 [some (.ref 20), some (.int a1), none] [] h (q_RV K) := by
  refine QW.iconst (0 : Int32) rfl dX2_goTo_0 ?_
  refine QW.istore_n [some (.ref 20), some (.int a1), some (.int (0 : Int32))] dX2_goTo_1 (by decide) rfl rfl ?_
  exact vc
theorem vX2_goTo_2 {g : QG} {K : Hp → Prop} {h : Hp} {a1 a2 : Int32} (vc : ((h 1 2) ≤ a2 → K h) ∧ (¬ (h 1 2) ≤ a2 → vp_in a2 6 ∧ vp_in a2 6 ∧ vp_in a2 6 ∧ FI g mX6_placeAfter [.ref 1, .int (h 3 a2.toNatClampNeg), .int ((h 21 a2.toNatClampNeg) * a1), .int (h 22 a2.toNatClampNeg)] h (fun x1 h1 => vp_in a2 6 ∧ FW g mX2_goTo 2 [some (.ref 20), some (.int a1), some (.int (a2 + (1 : Int32)))] [] (q_up h1 17 a2.toNatClampNeg x1) (q_RV K)))) : FW g mX2_goTo 2 [some (.ref 20), some (.int a1), some (.int a2)] [] h (q_RV K) := by
  refine QW.iload_n dX2_goTo_2 rfl ?_
  refine QW.aload_n dX2_goTo_3 rfl ?_
  refine FW.getR dX2_goTo_4 lfX2_21 sR_20_0 ?_
  refine FW.getI (h 1 2) dX2_goTo_7 lfX2_61 sI_1_2 rfl ?_
  refine QW.icmp_ge 58 dX2_goTo_10 rfl (fun hc => ?_) (fun hc => ?_)
  · replace vc := vc.1 hc
    exact FW.retV dX2_goTo_58 rfl vc
  · replace vc := vc.2 hc
    refine QW.aload_n dX2_goTo_13 rfl ?_
    refine FW.getR dX2_goTo_14 lfX2_25 sR_20_1 ?_
    refine FW.getR dX2_goTo_17 lfX2_64 sR_16_1 ?_
    refine QW.iload_n dX2_goTo_20 rfl ?_
    refine QW.aload_n dX2_goTo_21 rfl ?_
    refine FW.getR dX2_goTo_22 lfX2_21 sR_20_0 ?_
    refine QW.aload_n dX2_goTo_25 rfl ?_
    refine FW.getR dX2_goTo_26 lfX2_21 sR_20_0 ?_
    refine FW.getR dX2_goTo_29 lfX2_67 sR_1_4 ?_
    refine QW.iload_n dX2_goTo_32 rfl ?_
    refine FW.iald (h 3 a2.toNatClampNeg) dX2_goTo_33 sA_3 vc.1 rfl ?_
    replace vc := vc.2
    refine QW.aload_n dX2_goTo_34 rfl ?_
    refine FW.getR dX2_goTo_35 lfX2_9 sR_20_2 ?_
    refine QW.iload_n dX2_goTo_38 rfl ?_
    refine FW.iald (h 21 a2.toNatClampNeg) dX2_goTo_39 sA_21 vc.1 rfl ?_
    replace vc := vc.2
    refine QW.iload_n dX2_goTo_40 rfl ?_
    refine QW.imul dX2_goTo_41 ?_
    refine QW.aload_n dX2_goTo_42 rfl ?_
    refine FW.getR dX2_goTo_43 lfX2_15 sR_20_3 ?_
    refine QW.iload_n dX2_goTo_46 rfl ?_
    refine FW.iald (h 22 a2.toNatClampNeg) dX2_goTo_47 sA_22 vc.1 rfl ?_
    replace vc := vc.2
    refine FW.callVi [.int (h 3 a2.toNatClampNeg), .int ((h 21 a2.toNatClampNeg) * a1), .int (h 22 a2.toNatClampNeg)] [.int a2, .ref 17] rfl dX2_goTo_48 lmX2_70 sC_1 rfl ⟨Nat.le_of_ble_eq_true rfl, Nat.le_of_ble_eq_true rfl⟩ ⟨rfl, rfl⟩ (Nat.le_of_ble_eq_true rfl) (FI.mono (fun x1 h1 vc => ?_) vc)
    refine FW.iast dX2_goTo_51 sA_17 vc.1 ?_
    replace vc := vc.2
    refine QW.iinc (a2 + (1 : Int32)) [some (.ref 20), some (.int a1), some (.int (a2 + (1 : Int32)))] dX2_goTo_52 rfl rfl (by decide) rfl rfl ?_
    refine QW.goto 2 dX2_goTo_55 rfl ?_
    exact vc
theorem vX1_keepStill_0 {g : QG} {K : Hp → Prop} {h : Hp} {a1 : Int32} (vc : FV g mX2_asTold [.ref 20] h (fun h1 => FW g mX1_keepStill 9 [some (.ref 24), some (.int a1), some (.int (0 : Int32))] [] h1 (q_RV K))) : FW g mX1_keepStill 0 [some (.ref 24), some (.int a1), none] [] h (q_RV K) := by
  refine QW.aload_n dX1_keepStill_0 rfl ?_
  refine FW.getR dX1_keepStill_1 lfX1_19 sR_24_1 ?_
  refine FW.callVv [] [] rfl dX1_keepStill_4 lmX1_23 sC_20 rfl ⟨Nat.le_of_ble_eq_true rfl, Nat.le_of_ble_eq_true rfl⟩ ⟨rfl, rfl⟩ (Nat.le_of_ble_eq_true rfl) (FV.mono (fun h1 vc => ?_) vc)
  refine QW.iconst (0 : Int32) rfl dX1_keepStill_7 ?_
  refine QW.istore_n [some (.ref 24), some (.int a1), some (.int (0 : Int32))] dX1_keepStill_8 (by decide) rfl rfl ?_
  exact vc
theorem vX1_keepStill_9 {g : QG} {K : Hp → Prop} {h : Hp} {a1 a2 : Int32} (vc : ((h 1 2) ≤ a2 → K h) ∧ (¬ (h 1 2) ≤ a2 → FI g mX7_holds [.int a1, .int a2] h (fun x1 h1 => (x1 = 0 → FW g mX1_keepStill 9 [some (.ref 24), some (.int a1), some (.int (a2 + (1 : Int32)))] [] h1 (q_RV K)) ∧ (¬ x1 = 0 → vp_in a2 6 ∧ FW g mX1_keepStill 9 [some (.ref 24), some (.int a1), some (.int (a2 + (1 : Int32)))] [] (q_up h1 21 a2.toNatClampNeg (0 : Int32)) (q_RV K))))) : FW g mX1_keepStill 9 [some (.ref 24), some (.int a1), some (.int a2)] [] h (q_RV K) := by
  refine QW.iload_n dX1_keepStill_9 rfl ?_
  refine QW.aload_n dX1_keepStill_10 rfl ?_
  refine FW.getR dX1_keepStill_11 lfX1_15 sR_24_0 ?_
  refine FW.getI (h 1 2) dX1_keepStill_14 lfX1_57 sI_1_2 rfl ?_
  refine QW.icmp_ge 44 dX1_keepStill_17 rfl (fun hc => ?_) (fun hc => ?_)
  · replace vc := vc.1 hc
    exact FW.retV dX1_keepStill_44 rfl vc
  · replace vc := vc.2 hc
    refine QW.iload_n dX1_keepStill_20 rfl ?_
    refine QW.iload_n dX1_keepStill_21 rfl ?_
    refine FW.callNi [.int a1, .int a2] [] rfl dX1_keepStill_22 lmX1_86 rfl ⟨Nat.le_of_ble_eq_true rfl, Nat.le_of_ble_eq_true rfl⟩ ⟨rfl, rfl⟩ (Nat.le_of_ble_eq_true rfl) (FI.mono (fun x1 h1 vc => ?_) vc)
    refine QW.if_eq 38 dX1_keepStill_25 rfl (fun hc => ?_) (fun hc => ?_)
    · replace vc := vc.1 hc
      refine QW.iinc (a2 + (1 : Int32)) [some (.ref 24), some (.int a1), some (.int (a2 + (1 : Int32)))] dX1_keepStill_38 rfl rfl (by decide) rfl rfl ?_
      refine QW.goto 9 dX1_keepStill_41 rfl ?_
      exact vc
    · replace vc := vc.2 hc
      refine QW.aload_n dX1_keepStill_28 rfl ?_
      refine FW.getR dX1_keepStill_29 lfX1_19 sR_24_1 ?_
      refine FW.getR dX1_keepStill_32 lfX1_32 sR_20_2 ?_
      refine QW.iload_n dX1_keepStill_35 rfl ?_
      refine QW.iconst (0 : Int32) rfl dX1_keepStill_36 ?_
      refine FW.iast dX1_keepStill_37 sA_21 vc.1 ?_
      replace vc := vc.2
      refine QW.iinc (a2 + (1 : Int32)) [some (.ref 24), some (.int a1), some (.int (a2 + (1 : Int32)))] dX1_keepStill_38 rfl rfl (by decide) rfl rfl ?_
      refine QW.goto 9 dX1_keepStill_41 rfl ?_
      exact vc
theorem vX8_reads_0 {g : QG} {K : Int32 → Hp → Prop} {h : Hp} {a1 a2 a3 : Int32} (vc : FI g mX8_numberHere [.ref 44] h (fun x1 h1 => FI g mX8_in [.long x1.toInt64, .long a2.toInt64, .long a3.toInt64] h1 (fun x2 h2 => (¬ x2 = 0 → vp_in ((((5 : Int32) * (h2 44 5)) + (1 : Int32)) + a1) 60 ∧ FV g mX8_token [.ref 44] (q_up h2 48 (((((5 : Int32) * (h2 44 5)) + (1 : Int32)) + a1).toNatClampNeg) x1) (fun h3 => K (1 : Int32) h3)) ∧ (x2 = 0 → K (0 : Int32) h2)))) : FW g mX8_reads 0 [some (.ref 44), some (.int a1), some (.int a2), some (.int a3), none] [] h (q_RI K) := by
  refine QW.aload_n dX8_reads_0 rfl ?_
  refine FW.callVi [] [] rfl dX8_reads_1 lmX8_111 sC_44 rfl ⟨Nat.le_of_ble_eq_true rfl, Nat.le_of_ble_eq_true rfl⟩ ⟨rfl, rfl⟩ (Nat.le_of_ble_eq_true rfl) (FI.mono (fun x1 h1 vc => ?_) vc)
  refine QW.istore [some (.ref 44), some (.int a1), some (.int a2), some (.int a3), some (.int x1)] dX8_reads_4 (by decide) rfl rfl ?_
  refine QW.iload dX8_reads_6 rfl ?_
  refine QW.i2l dX8_reads_8 ?_
  refine QW.iload_n dX8_reads_9 rfl ?_
  refine QW.i2l dX8_reads_10 ?_
  refine QW.iload_n dX8_reads_11 rfl ?_
  refine QW.i2l dX8_reads_12 ?_
  refine FW.callSi [.long x1.toInt64, .long a2.toInt64, .long a3.toInt64] [] rfl dX8_reads_13 lmX8_70 rfl ⟨Nat.le_of_ble_eq_true rfl, Nat.le_of_ble_eq_true rfl⟩ ⟨rfl, rfl⟩ (Nat.le_of_ble_eq_true rfl) (FI.mono (fun x2 h2 vc => ?_) vc)
  refine QW.if_ne 21 dX8_reads_16 rfl (fun hc => ?_) (fun hc => ?_)
  · replace vc := vc.1 hc
    refine QW.aload_n dX8_reads_21 rfl ?_
    refine FW.getR dX8_reads_22 lfX8_20 sR_44_4 ?_
    refine QW.iconst (5 : Int32) rfl dX8_reads_25 ?_
    refine QW.aload_n dX8_reads_26 rfl ?_
    refine FW.getI (h2 44 5) dX8_reads_27 lfX8_114 sI_44_5 rfl ?_
    refine QW.imul dX8_reads_30 ?_
    refine QW.iconst (1 : Int32) rfl dX8_reads_31 ?_
    refine QW.iadd dX8_reads_32 ?_
    refine QW.iload_n dX8_reads_33 rfl ?_
    refine QW.iadd dX8_reads_34 ?_
    refine QW.iload dX8_reads_35 rfl ?_
    refine FW.iast dX8_reads_37 sA_48 vc.1 ?_
    replace vc := vc.2
    refine QW.aload_n dX8_reads_38 rfl ?_
    refine FW.callVv [] [] rfl dX8_reads_39 lmX8_117 sC_44 rfl ⟨Nat.le_of_ble_eq_true rfl, Nat.le_of_ble_eq_true rfl⟩ ⟨rfl, rfl⟩ (Nat.le_of_ble_eq_true rfl) (FV.mono (fun h3 vc => ?_) vc)
    refine QW.iconst (1 : Int32) rfl dX8_reads_42 ?_
    exact FW.retZ (Or.inr rfl) dX8_reads_43 rfl vc
  · replace vc := vc.2 hc
    refine QW.iconst (0 : Int32) rfl dX8_reads_19 ?_
    exact FW.retZ (Or.inl rfl) dX8_reads_20 rfl vc
theorem vX3_seatOne_0 {g : QG} {K : Hp → Prop} {h : Hp} {a1 a2 : Int32} (vc : vp_in a1 6 ∧ FV g mX3_take [.ref 16, .int a1, .int a2] (q_up h 18 a1.toNatClampNeg a2) (fun h1 => vp_in a1 6 ∧ ((h1 2 a1.toNatClampNeg) = (3 : Int32) → FW g mX3_seatOne 29 [some (.ref 16), some (.int a1), some (.int a2), some (.int (1 : Int32)), none] [] h1 (q_RV K)) ∧ (¬ (h1 2 a1.toNatClampNeg) = (3 : Int32) → K h1))) : FW g mX3_seatOne 0 [some (.ref 16), some (.int a1), some (.int a2), none, none] [] h (q_RV K) := by
  refine QW.aload_n dX3_seatOne_0 rfl ?_
  refine FW.getR dX3_seatOne_1 lfX3_15 sR_16_2 ?_
  refine QW.iload_n dX3_seatOne_4 rfl ?_
  refine QW.iload_n dX3_seatOne_5 rfl ?_
  refine FW.iast dX3_seatOne_6 sA_18 vc.1 ?_
  replace vc := vc.2
  refine QW.aload_n dX3_seatOne_7 rfl ?_
  refine QW.iload_n dX3_seatOne_8 rfl ?_
  refine QW.iload_n dX3_seatOne_9 rfl ?_
  refine FW.callVv [.int a1, .int a2] [] rfl dX3_seatOne_10 lmX3_70 sC_16 rfl ⟨Nat.le_of_ble_eq_true rfl, Nat.le_of_ble_eq_true rfl⟩ ⟨rfl, rfl⟩ (Nat.le_of_ble_eq_true rfl) (FV.mono (fun h1 vc => ?_) vc)
  refine QW.aload_n dX3_seatOne_13 rfl ?_
  refine FW.getR dX3_seatOne_14 lfX3_21 sR_16_0 ?_
  refine FW.getR dX3_seatOne_17 lfX3_73 sR_1_3 ?_
  refine QW.iload_n dX3_seatOne_20 rfl ?_
  refine FW.iald (h1 2 a1.toNatClampNeg) dX3_seatOne_21 sA_2 vc.1 rfl ?_
  replace vc := vc.2
  refine QW.iconst (3 : Int32) rfl dX3_seatOne_22 ?_
  refine QW.icmp_eq 27 dX3_seatOne_23 rfl (fun hc => ?_) (fun hc => ?_)
  · replace vc := vc.1 hc
    refine QW.iconst (1 : Int32) rfl dX3_seatOne_27 ?_
    refine QW.istore_n [some (.ref 16), some (.int a1), some (.int a2), some (.int (1 : Int32)), none] dX3_seatOne_28 (by decide) rfl rfl ?_
    exact vc
  · replace vc := vc.2 hc
    exact FW.retV dX3_seatOne_26 rfl vc
theorem vX3_seatOne_29 {g : QG} {K : Hp → Prop} {h : Hp} {a1 a2 a3 : Int32} (vc : FI g mX6_farthest [.ref 1] h (fun x1 h1 => (x1 < a3 → K h1) ∧ (¬ x1 < a3 → FI g mX6_leastAt [.ref 1, .int a2, .int a3, .int (h1 16 5)] h1 (fun x2 h2 => (x2 = (-1 : Int32) → FW g mX3_seatOne 29 [some (.ref 16), some (.int a1), some (.int a2), some (.int (a3 + (1 : Int32))), none] [] h2 (q_RV K)) ∧ (¬ x2 = (-1 : Int32) → FV g mX3_take [.ref 16, .int a1, .int x2] h2 (fun h3 => K (q_up h3 16 4 (1 : Int32)))))))) : FW g mX3_seatOne 29 [some (.ref 16), some (.int a1), some (.int a2), some (.int a3), none] [] h (q_RV K) := by
  refine QW.iload_n dX3_seatOne_29 rfl ?_
  refine QW.aload_n dX3_seatOne_30 rfl ?_
  refine FW.getR dX3_seatOne_31 lfX3_21 sR_16_0 ?_
  refine FW.callVi [] [.int a3] rfl dX3_seatOne_34 lmX3_48 sC_1 rfl ⟨Nat.le_of_ble_eq_true rfl, Nat.le_of_ble_eq_true rfl⟩ ⟨rfl, rfl⟩ (Nat.le_of_ble_eq_true rfl) (FI.mono (fun x1 h1 vc => ?_) vc)
  refine QW.icmp_gt 80 dX3_seatOne_37 rfl (fun hc => ?_) (fun hc => ?_)
  · replace vc := vc.1 hc
    exact FW.retV dX3_seatOne_80 rfl vc
  · replace vc := vc.2 hc
    refine QW.aload_n dX3_seatOne_40 rfl ?_
    refine FW.getR dX3_seatOne_41 lfX3_21 sR_16_0 ?_
    refine QW.iload_n dX3_seatOne_44 rfl ?_
    refine QW.iload_n dX3_seatOne_45 rfl ?_
    refine QW.aload_n dX3_seatOne_46 rfl ?_
    refine FW.getI (h1 16 5) dX3_seatOne_47 lfX3_35 sI_16_5 rfl ?_
    refine FW.callVi [.int a2, .int a3, .int (h1 16 5)] [] rfl dX3_seatOne_50 lmX3_62 sC_1 rfl ⟨Nat.le_of_ble_eq_true rfl, Nat.le_of_ble_eq_true rfl⟩ ⟨rfl, rfl⟩ (Nat.le_of_ble_eq_true rfl) (FI.mono (fun x2 h2 vc => ?_) vc)
    refine QW.istore [some (.ref 16), some (.int a1), some (.int a2), some (.int a3), some (.int x2)] dX3_seatOne_53 (by decide) rfl rfl ?_
    refine QW.iload dX3_seatOne_55 rfl ?_
    refine QW.iconst (-1 : Int32) rfl dX3_seatOne_57 ?_
    refine QW.icmp_eq 74 dX3_seatOne_58 rfl (fun hc => ?_) (fun hc => ?_)
    · replace vc := vc.1 hc
      refine QW.iinc (a3 + (1 : Int32)) [some (.ref 16), some (.int a1), some (.int a2), some (.int (a3 + (1 : Int32))), some (.int x2)] dX3_seatOne_74 rfl rfl (by decide) rfl rfl ?_
      refine QW.goto 29 dX3_seatOne_77 rfl ?_
      exact QW.sub (by exact ⟨rfl, ⟨rfl, ⟨rfl, ⟨rfl, trivial⟩⟩⟩⟩) vc
    · replace vc := vc.2 hc
      refine QW.aload_n dX3_seatOne_61 rfl ?_
      refine QW.iload_n dX3_seatOne_62 rfl ?_
      refine QW.iload dX3_seatOne_63 rfl ?_
      refine FW.callVv [.int a1, .int x2] [] rfl dX3_seatOne_65 lmX3_70 sC_16 rfl ⟨Nat.le_of_ble_eq_true rfl, Nat.le_of_ble_eq_true rfl⟩ ⟨rfl, rfl⟩ (Nat.le_of_ble_eq_true rfl) (FV.mono (fun h3 vc => ?_) vc)
      refine QW.aload_n dX3_seatOne_68 rfl ?_
      refine QW.iconst (1 : Int32) rfl dX3_seatOne_69 ?_
      refine FW.putZ (Or.inr rfl) dX3_seatOne_70 lfX3_31 sP_16_4 ?_
      exact FW.retV dX3_seatOne_73 rfl vc
theorem vX8_findsTwo_0 {g : QG} {K : Int32 → Hp → Prop} {h : Hp} {a1 : Int32} (vc : FW g mX8_findsTwo 5 [some (.ref 44), some (.int a1), some (.int (99 : Int32)), some (.int (0 : Int32)), none, none, none] [] h (q_RI K)) : FW g mX8_findsTwo 0 [some (.ref 44), some (.int a1), none, none, none, none, none] [] h (q_RI K) := by
  refine QW.bipush (99 : Int32) rfl dX8_findsTwo_0 ?_
  refine QW.istore_n [some (.ref 44), some (.int a1), some (.int (99 : Int32)), none, none, none, none] dX8_findsTwo_2 (by decide) rfl rfl ?_
  refine QW.iconst (0 : Int32) rfl dX8_findsTwo_3 ?_
  refine QW.istore_n [some (.ref 44), some (.int a1), some (.int (99 : Int32)), some (.int (0 : Int32)), none, none, none] dX8_findsTwo_4 (by decide) rfl rfl ?_
  exact vc
theorem vX8_findsTwo_5 {g : QG} {K : Int32 → Hp → Prop} {h : Hp} {a1 a2 a3 : Int32} (vc : ((h 44 13) ≤ a3 → ((99 : Int32) ≤ a2 → K (0 : Int32) h) ∧ (¬ (99 : Int32) ≤ a2 → K (1 : Int32) h)) ∧ (¬ (h 44 13) ≤ a3 → FW g mX8_findsTwo 16 [some (.ref 44), some (.int a1), some (.int a2), some (.int a3), some (.int (0 : Int32)), none, none] [] h (q_RI K))) : FW g mX8_findsTwo 5 [some (.ref 44), some (.int a1), some (.int a2), some (.int a3), none, none, none] [] h (q_RI K) := by
  refine QW.iload_n dX8_findsTwo_5 rfl ?_
  refine QW.aload_n dX8_findsTwo_6 rfl ?_
  refine FW.getI (h 44 13) dX8_findsTwo_7 lfX8_74 sI_44_13 rfl ?_
  refine QW.icmp_ge 149 dX8_findsTwo_10 rfl (fun hc => ?_) (fun hc => ?_)
  · replace vc := vc.1 hc
    refine QW.iload_n dX8_findsTwo_149 rfl ?_
    refine QW.bipush (99 : Int32) rfl dX8_findsTwo_150 ?_
    refine QW.icmp_ge 159 dX8_findsTwo_152 rfl (fun hc => ?_) (fun hc => ?_)
    · replace vc := vc.1 hc
      refine QW.iconst (0 : Int32) rfl dX8_findsTwo_159 ?_
      exact FW.retZ (Or.inl rfl) dX8_findsTwo_160 rfl vc
    · replace vc := vc.2 hc
      refine QW.iconst (1 : Int32) rfl dX8_findsTwo_155 ?_
      refine QW.goto 160 dX8_findsTwo_156 rfl ?_
      exact FW.retZ (Or.inr rfl) dX8_findsTwo_160 rfl vc
  · replace vc := vc.2 hc
    refine QW.iconst (0 : Int32) rfl dX8_findsTwo_13 ?_
    refine QW.istore [some (.ref 44), some (.int a1), some (.int a2), some (.int a3), some (.int (0 : Int32)), none, none] dX8_findsTwo_14 (by decide) rfl rfl ?_
    exact vc
theorem vX8_findsTwo_16 {g : QG} {K : Int32 → Hp → Prop} {h : Hp} {a1 a2 a3 a4 : Int32} (vc : ((h 44 6) ≤ a4 → FW g mX8_findsTwo 5 [some (.ref 44), some (.int a1), some (.int a2), some (.int (a3 + (1 : Int32))), none, none, none] [] h (q_RI K)) ∧ (¬ (h 44 6) ≤ a4 → FI g mX8_has [.int a1, .int a3] h (fun x1 h1 => (x1 = 0 → FW g mX8_findsTwo 60 [some (.ref 44), some (.int a1), some (.int a2), some (.int a3), some (.int a4), none, none] [.int (0 : Int32)] h1 (q_RI K)) ∧ (¬ x1 = 0 → vp_in a3 6 ∧ (¬ (h1 55 a3.toNatClampNeg) = (-1 : Int32) → FW g mX8_findsTwo 60 [some (.ref 44), some (.int a1), some (.int a2), some (.int a3), some (.int a4), none, none] [.int (0 : Int32)] h1 (q_RI K)) ∧ ((h1 55 a3.toNatClampNeg) = (-1 : Int32) → FI g mX8_has [.int (h1 44 23), .int a4] h1 (fun x2 h2 => (x2 = 0 → FW g mX8_findsTwo 60 [some (.ref 44), some (.int a1), some (.int a2), some (.int a3), some (.int a4), none, none] [.int (0 : Int32)] h2 (q_RI K)) ∧ (¬ x2 = 0 → FW g mX8_findsTwo 60 [some (.ref 44), some (.int a1), some (.int a2), some (.int a3), some (.int a4), none, none] [.int (1 : Int32)] h2 (q_RI K)))))))) : FW g mX8_findsTwo 16 [some (.ref 44), some (.int a1), some (.int a2), some (.int a3), some (.int a4), none, none] [] h (q_RI K) := by
  refine QW.iload dX8_findsTwo_16 rfl ?_
  refine QW.aload_n dX8_findsTwo_18 rfl ?_
  refine FW.getI (h 44 6) dX8_findsTwo_19 lfX8_23 sI_44_6 rfl ?_
  refine QW.icmp_ge 143 dX8_findsTwo_22 rfl (fun hc => ?_) (fun hc => ?_)
  · replace vc := vc.1 hc
    refine QW.iinc (a3 + (1 : Int32)) [some (.ref 44), some (.int a1), some (.int a2), some (.int (a3 + (1 : Int32))), some (.int a4), none, none] dX8_findsTwo_143 rfl rfl (by decide) rfl rfl ?_
    refine QW.goto 5 dX8_findsTwo_146 rfl ?_
    exact QW.sub (by exact ⟨rfl, ⟨rfl, ⟨rfl, ⟨rfl, trivial⟩⟩⟩⟩) vc
  · replace vc := vc.2 hc
    refine QW.iload_n dX8_findsTwo_25 rfl ?_
    refine QW.iload_n dX8_findsTwo_26 rfl ?_
    refine FW.callSi [.int a1, .int a3] [] rfl dX8_findsTwo_27 lmX8_130 rfl ⟨Nat.le_of_ble_eq_true rfl, Nat.le_of_ble_eq_true rfl⟩ ⟨rfl, rfl⟩ (Nat.le_of_ble_eq_true rfl) (FI.mono (fun x1 h1 vc => ?_) vc)
    refine QW.if_eq 59 dX8_findsTwo_30 rfl (fun hc => ?_) (fun hc => ?_)
    · replace vc := vc.1 hc
      refine QW.iconst (0 : Int32) rfl dX8_findsTwo_59 ?_
      exact vc
    · replace vc := vc.2 hc
      refine QW.aload_n dX8_findsTwo_33 rfl ?_
      refine FW.getR dX8_findsTwo_34 lfX8_45 sR_44_21 ?_
      refine QW.iload_n dX8_findsTwo_37 rfl ?_
      refine FW.iald (h1 55 a3.toNatClampNeg) dX8_findsTwo_38 sA_55 vc.1 rfl ?_
      replace vc := vc.2
      refine QW.iconst (-1 : Int32) rfl dX8_findsTwo_39 ?_
      refine QW.icmp_ne 59 dX8_findsTwo_40 rfl (fun hc => ?_) (fun hc => ?_)
      · replace vc := vc.1 hc
        refine QW.iconst (0 : Int32) rfl dX8_findsTwo_59 ?_
        exact vc
      · replace vc := vc.2 hc
        refine QW.aload_n dX8_findsTwo_43 rfl ?_
        refine FW.getI (h1 44 23) dX8_findsTwo_44 lfX8_186 sI_44_23 rfl ?_
        refine QW.iload dX8_findsTwo_47 rfl ?_
        refine FW.callSi [.int (h1 44 23), .int a4] [] rfl dX8_findsTwo_49 lmX8_130 rfl ⟨Nat.le_of_ble_eq_true rfl, Nat.le_of_ble_eq_true rfl⟩ ⟨rfl, rfl⟩ (Nat.le_of_ble_eq_true rfl) (FI.mono (fun x2 h2 vc => ?_) vc)
        refine QW.if_eq 59 dX8_findsTwo_52 rfl (fun hc => ?_) (fun hc => ?_)
        · replace vc := vc.1 hc
          refine QW.iconst (0 : Int32) rfl dX8_findsTwo_59 ?_
          exact vc
        · replace vc := vc.2 hc
          refine QW.iconst (1 : Int32) rfl dX8_findsTwo_55 ?_
          refine QW.goto 60 dX8_findsTwo_56 rfl ?_
          exact vc
theorem vX8_findsTwo_60 {g : QG} {K : Int32 → Hp → Prop} {h : Hp} {a1 a2 a3 a4 s0 : Int32} (vc : (s0 = 0 → FW g mX8_findsTwo 85 [some (.ref 44), some (.int a1), some (.int a2), some (.int a3), some (.int a4), none, none] [.int (99 : Int32)] h (q_RI K)) ∧ (¬ s0 = 0 → vp_in a3 6 ∧ FI g mX8_effort [.ref 44, .int a3, .int (h 54 a3.toNatClampNeg), .int a4] h (fun x1 h1 => FW g mX8_findsTwo 85 [some (.ref 44), some (.int a1), some (.int a2), some (.int a3), some (.int a4), none, none] [.int x1] h1 (q_RI K)))) : FW g mX8_findsTwo 60 [some (.ref 44), some (.int a1), some (.int a2), some (.int a3), some (.int a4), none, none] [.int s0] h (q_RI K) := by
  refine QW.istore [some (.ref 44), some (.int a1), some (.int a2), some (.int a3), some (.int a4), some (.int s0), none] dX8_findsTwo_60 (by decide) rfl rfl ?_
  refine QW.iload dX8_findsTwo_62 rfl ?_
  refine QW.if_eq 83 dX8_findsTwo_64 rfl (fun hc => ?_) (fun hc => ?_)
  · replace vc := vc.1 hc
    refine QW.bipush (99 : Int32) rfl dX8_findsTwo_83 ?_
    exact QW.sub (by exact ⟨rfl, ⟨rfl, ⟨rfl, ⟨rfl, ⟨rfl, trivial⟩⟩⟩⟩⟩) vc
  · replace vc := vc.2 hc
    refine QW.aload_n dX8_findsTwo_67 rfl ?_
    refine QW.iload_n dX8_findsTwo_68 rfl ?_
    refine QW.aload_n dX8_findsTwo_69 rfl ?_
    refine FW.getR dX8_findsTwo_70 lfX8_42 sR_44_20 ?_
    refine QW.iload_n dX8_findsTwo_73 rfl ?_
    refine FW.iald (h 54 a3.toNatClampNeg) dX8_findsTwo_74 sA_54 vc.1 rfl ?_
    replace vc := vc.2
    refine QW.iload dX8_findsTwo_75 rfl ?_
    refine FW.callVi [.int a3, .int (h 54 a3.toNatClampNeg), .int a4] [] rfl dX8_findsTwo_77 lmX8_182 sC_44 rfl ⟨Nat.le_of_ble_eq_true rfl, Nat.le_of_ble_eq_true rfl⟩ ⟨rfl, rfl⟩ (Nat.le_of_ble_eq_true rfl) (FI.mono (fun x1 h1 vc => ?_) vc)
    refine QW.goto 85 dX8_findsTwo_80 rfl ?_
    exact QW.sub (by exact ⟨rfl, ⟨rfl, ⟨rfl, ⟨rfl, ⟨rfl, trivial⟩⟩⟩⟩⟩) vc
theorem vX8_findsTwo_85 {g : QG} {K : Int32 → Hp → Prop} {h : Hp} {a1 a2 a3 a4 s0 : Int32} (vc : (a2 ≤ s0 → (a2 ≤ s0 → FW g mX8_findsTwo 121 [some (.ref 44), some (.int a1), some (.int a2), some (.int a3), some (.int a4), none, some (.int s0)] [.int (h 44 25), .ref 44] (q_up h 44 24 (h 44 24)) (q_RI K)) ∧ (¬ a2 ≤ s0 → FW g mX8_findsTwo 121 [some (.ref 44), some (.int a1), some (.int a2), some (.int a3), some (.int a4), none, some (.int s0)] [.int a4, .ref 44] (q_up h 44 24 (h 44 24)) (q_RI K))) ∧ (¬ a2 ≤ s0 → (a2 ≤ s0 → FW g mX8_findsTwo 121 [some (.ref 44), some (.int a1), some (.int a2), some (.int a3), some (.int a4), none, some (.int s0)] [.int (h 44 25), .ref 44] (q_up h 44 24 a3) (q_RI K)) ∧ (¬ a2 ≤ s0 → FW g mX8_findsTwo 121 [some (.ref 44), some (.int a1), some (.int a2), some (.int a3), some (.int a4), none, some (.int s0)] [.int a4, .ref 44] (q_up h 44 24 a3) (q_RI K)))) : FW g mX8_findsTwo 85 [some (.ref 44), some (.int a1), some (.int a2), some (.int a3), some (.int a4), none, none] [.int s0] h (q_RI K) := by
  refine QW.istore [some (.ref 44), some (.int a1), some (.int a2), some (.int a3), some (.int a4), none, some (.int s0)] dX8_findsTwo_85 (by decide) rfl rfl ?_
  refine QW.aload_n dX8_findsTwo_87 rfl ?_
  refine QW.iload dX8_findsTwo_88 rfl ?_
  refine QW.iload_n dX8_findsTwo_90 rfl ?_
  refine QW.icmp_ge 98 dX8_findsTwo_91 rfl (fun hc => ?_) (fun hc => ?_)
  · replace vc := vc.1 hc
    refine QW.aload_n dX8_findsTwo_98 rfl ?_
    refine FW.getI (h 44 24) dX8_findsTwo_99 lfX8_189 sI_44_24 rfl ?_
    refine FW.putI dX8_findsTwo_102 lfX8_189 sP_44_24 ?_
    refine QW.aload_n dX8_findsTwo_105 rfl ?_
    refine QW.iload dX8_findsTwo_106 rfl ?_
    refine QW.iload_n dX8_findsTwo_108 rfl ?_
    refine QW.icmp_ge 117 dX8_findsTwo_109 rfl (fun hc => ?_) (fun hc => ?_)
    · replace vc := vc.1 hc
      refine QW.aload_n dX8_findsTwo_117 rfl ?_
      refine FW.getI (h 44 25) dX8_findsTwo_118 lfX8_192 sI_44_25 rfl ?_
      exact vc
    · replace vc := vc.2 hc
      refine QW.iload dX8_findsTwo_112 rfl ?_
      refine QW.goto 121 dX8_findsTwo_114 rfl ?_
      exact vc
  · replace vc := vc.2 hc
    refine QW.iload_n dX8_findsTwo_94 rfl ?_
    refine QW.goto 102 dX8_findsTwo_95 rfl ?_
    refine FW.putI dX8_findsTwo_102 lfX8_189 sP_44_24 ?_
    refine QW.aload_n dX8_findsTwo_105 rfl ?_
    refine QW.iload dX8_findsTwo_106 rfl ?_
    refine QW.iload_n dX8_findsTwo_108 rfl ?_
    refine QW.icmp_ge 117 dX8_findsTwo_109 rfl (fun hc => ?_) (fun hc => ?_)
    · replace vc := vc.1 hc
      refine QW.aload_n dX8_findsTwo_117 rfl ?_
      refine FW.getI (h 44 25) dX8_findsTwo_118 lfX8_192 sI_44_25 rfl ?_
      exact vc
    · replace vc := vc.2 hc
      refine QW.iload dX8_findsTwo_112 rfl ?_
      refine QW.goto 121 dX8_findsTwo_114 rfl ?_
      exact vc
theorem vX8_findsTwo_121 {g : QG} {K : Int32 → Hp → Prop} {h : Hp} {a1 a2 a3 a4 a6 s1 : Int32} (vc : (a2 ≤ a6 → FW g mX8_findsTwo 16 [some (.ref 44), some (.int a1), some (.int a2), some (.int a3), some (.int (a4 + (1 : Int32))), none, none] [] (q_up h 44 25 s1) (q_RI K)) ∧ (¬ a2 ≤ a6 → FW g mX8_findsTwo 16 [some (.ref 44), some (.int a1), some (.int a6), some (.int a3), some (.int (a4 + (1 : Int32))), none, none] [] (q_up h 44 25 s1) (q_RI K))) : FW g mX8_findsTwo 121 [some (.ref 44), some (.int a1), some (.int a2), some (.int a3), some (.int a4), none, some (.int a6)] [.int s1, .ref 44] h (q_RI K) := by
  refine FW.putI dX8_findsTwo_121 lfX8_192 sP_44_25 ?_
  refine QW.iload dX8_findsTwo_124 rfl ?_
  refine QW.iload_n dX8_findsTwo_126 rfl ?_
  refine QW.icmp_ge 135 dX8_findsTwo_127 rfl (fun hc => ?_) (fun hc => ?_)
  · replace vc := vc.1 hc
    refine QW.iload_n dX8_findsTwo_135 rfl ?_
    refine QW.istore_n [some (.ref 44), some (.int a1), some (.int a2), some (.int a3), some (.int a4), none, some (.int a6)] dX8_findsTwo_136 (by decide) rfl rfl ?_
    refine QW.iinc (a4 + (1 : Int32)) [some (.ref 44), some (.int a1), some (.int a2), some (.int a3), some (.int (a4 + (1 : Int32))), none, some (.int a6)] dX8_findsTwo_137 rfl rfl (by decide) rfl rfl ?_
    refine QW.goto 16 dX8_findsTwo_140 rfl ?_
    exact QW.sub (by exact ⟨rfl, ⟨rfl, ⟨rfl, ⟨rfl, ⟨rfl, trivial⟩⟩⟩⟩⟩) vc
  · replace vc := vc.2 hc
    refine QW.iload dX8_findsTwo_130 rfl ?_
    refine QW.goto 136 dX8_findsTwo_132 rfl ?_
    refine QW.istore_n [some (.ref 44), some (.int a1), some (.int a6), some (.int a3), some (.int a4), none, some (.int a6)] dX8_findsTwo_136 (by decide) rfl rfl ?_
    refine QW.iinc (a4 + (1 : Int32)) [some (.ref 44), some (.int a1), some (.int a6), some (.int a3), some (.int (a4 + (1 : Int32))), none, some (.int a6)] dX8_findsTwo_137 rfl rfl (by decide) rfl rfl ?_
    refine QW.goto 16 dX8_findsTwo_140 rfl ?_
    exact QW.sub (by exact ⟨rfl, ⟨rfl, ⟨rfl, ⟨rfl, ⟨rfl, trivial⟩⟩⟩⟩⟩) vc
