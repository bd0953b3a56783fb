theorem vX8_write_0 {g : QG} {K : Int32 → Hp → Prop} {h : Hp} {a1 : Int64} {a3 : Int32} (vc : FI g mX8_in [.long a3.toInt64, .long (1 : Int64), .long (8 : Int64)] h (fun x1 h1 => (¬ x1 = 0 → (((h1 44 3) + a3) ≤ (200 : Int32) → FW g mX8_write 33 [some (.ref 44), some (.long a1), none, some (.int a3), some (.int (0 : Int32))] [] h1 (q_RI K)) ∧ (¬ ((h1 44 3) + a3) ≤ (200 : Int32) → K (-5 : Int32) h1)) ∧ (x1 = 0 → K (-3 : Int32) h1))) : FW g mX8_write 0 [some (.ref 44), some (.long a1), none, some (.int a3), none] [] h (q_RI K) := by
  refine QW.iload_n dX8_write_0 rfl ?_
  refine QW.i2l dX8_write_1 ?_
  refine QW.lconst (1 : Int64) rfl dX8_write_2 ?_
  refine QW.ldc2 dX8_write_3 lkX8_77 ?_
  refine FW.callSi [.long a3.toInt64, .long (1 : Int64), .long (8 : Int64)] [] rfl dX8_write_6 lmX8_70 rfl ⟨Nat.le_of_ble_eq_true rfl, Nat.le_of_ble_eq_true rfl⟩ ⟨rfl, rfl⟩ (Nat.le_of_ble_eq_true rfl) (FI.mono (fun x1 h1 vc => ?_) vc)
  refine QW.if_ne 15 dX8_write_9 rfl (fun hc => ?_) (fun hc => ?_)
  · replace vc := vc.1 hc
    refine QW.aload_n dX8_write_15 rfl ?_
    refine FW.getI (h1 44 3) dX8_write_16 lfX8_79 sI_44_3 rfl ?_
    refine QW.iload_n dX8_write_19 rfl ?_
    refine QW.iadd dX8_write_20 ?_
    refine QW.sipush (200 : Int32) rfl dX8_write_21 ?_
    refine QW.icmp_le 30 dX8_write_24 rfl (fun hc => ?_) (fun hc => ?_)
    · replace vc := vc.1 hc
      refine QW.iconst (0 : Int32) rfl dX8_write_30 ?_
      refine QW.istore [some (.ref 44), some (.long a1), none, some (.int a3), some (.int (0 : Int32))] dX8_write_31 (by decide) rfl rfl ?_
      exact vc
    · replace vc := vc.2 hc
      refine QW.bipush (-5 : Int32) rfl dX8_write_27 ?_
      exact FW.ret dX8_write_29 rfl vc
  · replace vc := vc.2 hc
    refine QW.bipush (-3 : Int32) rfl dX8_write_12 ?_
    exact FW.ret dX8_write_14 rfl vc
theorem vX8_write_33 {g : QG} {K : Int32 → Hp → Prop} {h : Hp} {a1 : Int64} {a3 a4 : Int32} (vc : (a3 ≤ a4 → K (h 44 3) h) ∧ (¬ a3 ≤ a4 → vp_in (h 44 3) 200 ∧ FW g mX8_write 33 [some (.ref 44), some (.long a1), none, some (.int a3), some (.int (a4 + (1 : Int32)))] [] (q_up (q_up h 47 ((h 44 3).toNatClampNeg) (((a1 >>> (((8 : Int32) * a4).toInt64 &&& 63)) &&& (255 : Int64)).toInt32)) 44 3 ((h 44 3) + (1 : Int32))) (q_RI K))) : FW g mX8_write 33 [some (.ref 44), some (.long a1), none, some (.int a3), some (.int a4)] [] h (q_RI K) := by
  refine QW.iload dX8_write_33 rfl ?_
  refine QW.iload_n dX8_write_35 rfl ?_
  refine QW.icmp_ge 76 dX8_write_36 rfl (fun hc => ?_) (fun hc => ?_)
  · replace vc := vc.1 hc
    refine QW.aload_n dX8_write_76 rfl ?_
    refine FW.getI (h 44 3) dX8_write_77 lfX8_79 sI_44_3 rfl ?_
    exact FW.ret dX8_write_80 rfl vc
  · replace vc := vc.2 hc
    refine QW.aload_n dX8_write_39 rfl ?_
    refine FW.getR dX8_write_40 lfX8_17 sR_44_2 ?_
    refine QW.aload_n dX8_write_43 rfl ?_
    refine FW.getI (h 44 3) dX8_write_44 lfX8_79 sI_44_3 rfl ?_
    refine QW.lload_n dX8_write_47 rfl ?_
    refine QW.bipush (8 : Int32) rfl dX8_write_48 ?_
    refine QW.iload dX8_write_50 rfl ?_
    refine QW.imul dX8_write_52 ?_
    refine QW.lshr dX8_write_53 ?_
    refine QW.ldc2 dX8_write_54 lkX8_82 ?_
    refine QW.land dX8_write_57 ?_
    refine QW.l2i dX8_write_58 ?_
    refine FW.iast dX8_write_59 sA_47 vc.1 ?_
    replace vc := vc.2
    refine QW.aload_n dX8_write_60 rfl ?_
    refine QW.dupr dX8_write_61 ?_
    refine FW.getI (h 44 3) dX8_write_62 lfX8_79 sI_44_3 rfl ?_
    refine QW.iconst (1 : Int32) rfl dX8_write_65 ?_
    refine QW.iadd dX8_write_66 ?_
    refine FW.putI dX8_write_67 lfX8_79 sP_44_3 ?_
    refine QW.iinc (a4 + (1 : Int32)) [some (.ref 44), some (.long a1), none, some (.int a3), some (.int (a4 + (1 : Int32)))] dX8_write_70 rfl rfl (by decide) rfl rfl ?_
    refine QW.goto 33 dX8_write_73 rfl ?_
    exact vc
theorem vX7_guest_0 {g : QG} {K : Int32 → Hp → Prop} {h : Hp} {a1 a2 : Int32} (vc : FI g mX6_hasGuest [.ref 1, .int a1] h (fun x1 h1 => (¬ x1 = 0 → (a2 = (0 : Int32) → vp_in a1 6 ∧ K (h1 2 a1.toNatClampNeg) h1) ∧ (¬ a2 = (0 : Int32) → (a2 = (1 : Int32) → vp_in a1 6 ∧ K (h1 27 a1.toNatClampNeg) h1) ∧ (¬ a2 = (1 : Int32) → (a2 = (2 : Int32) → vp_in a1 6 ∧ K (h1 4 a1.toNatClampNeg) h1) ∧ (¬ a2 = (2 : Int32) → (a2 = (3 : Int32) → vp_in a1 6 ∧ K (h1 5 a1.toNatClampNeg) h1) ∧ (¬ a2 = (3 : Int32) → (a2 = (4 : Int32) → vp_in a1 6 ∧ K (h1 6 a1.toNatClampNeg) h1) ∧ (¬ a2 = (4 : Int32) → (a2 = (5 : Int32) → vp_in a1 6 ∧ K (h1 28 a1.toNatClampNeg) h1) ∧ (¬ a2 = (5 : Int32) → (a2 = (6 : Int32) → vp_in a1 6 ∧ K (h1 30 a1.toNatClampNeg) h1) ∧ (¬ a2 = (6 : Int32) → K (-3 : Int32) h1)))))))) ∧ (x1 = 0 → K (-2 : Int32) h1))) : FW g mX7_guest 0 [some (.ref 0), some (.int a1), some (.int a2)] [] h (q_RI K) := by
  refine QW.aload_n dX7_guest_0 rfl ?_
  refine FW.getR dX7_guest_1 lfX7_10 sR_0_0 ?_
  refine QW.iload_n dX7_guest_4 rfl ?_
  refine FW.callVi [.int a1] [] rfl dX7_guest_5 lmX7_121 sC_1 rfl ⟨Nat.le_of_ble_eq_true rfl, Nat.le_of_ble_eq_true rfl⟩ ⟨rfl, rfl⟩ (Nat.le_of_ble_eq_true rfl) (FI.mono (fun x1 h1 vc => ?_) vc)
  refine QW.if_ne 14 dX7_guest_8 rfl (fun hc => ?_) (fun hc => ?_)
  · replace vc := vc.1 hc
    refine QW.iload_n dX7_guest_14 rfl ?_
    by_cases c0 : a2 = (0 : Int32)
    · replace vc := vc.1 c0
      refine QW.tabIn 56 dX7_guest_15 (by rw [c0]; decide) (by rw [c0]; decide) (by rw [c0]; rfl) rfl ?_
      refine QW.aload_n dX7_guest_56 rfl ?_
      refine FW.getR dX7_guest_57 lfX7_10 sR_0_0 ?_
      refine FW.getR dX7_guest_60 lfX7_124 sR_1_3 ?_
      refine QW.iload_n dX7_guest_63 rfl ?_
      refine FW.iald (h1 2 a1.toNatClampNeg) dX7_guest_64 sA_2 vc.1 rfl ?_
      replace vc := vc.2
      exact FW.ret dX7_guest_65 rfl vc
    · replace vc := vc.2 c0
      by_cases c1 : a2 = (1 : Int32)
      · replace vc := vc.1 c1
        refine QW.tabIn 66 dX7_guest_15 (by rw [c1]; decide) (by rw [c1]; decide) (by rw [c1]; rfl) rfl ?_
        refine QW.aload_n dX7_guest_66 rfl ?_
        refine FW.getR dX7_guest_67 lfX7_53 sR_0_5 ?_
        refine FW.getR dX7_guest_70 lfX7_127 sR_26_4 ?_
        refine QW.iload_n dX7_guest_73 rfl ?_
        refine FW.iald (h1 27 a1.toNatClampNeg) dX7_guest_74 sA_27 vc.1 rfl ?_
        replace vc := vc.2
        exact FW.ret dX7_guest_75 rfl vc
      · replace vc := vc.2 c1
        by_cases c2 : a2 = (2 : Int32)
        · replace vc := vc.1 c2
          refine QW.tabIn 76 dX7_guest_15 (by rw [c2]; decide) (by rw [c2]; decide) (by rw [c2]; rfl) rfl ?_
          refine QW.aload_n dX7_guest_76 rfl ?_
          refine FW.getR dX7_guest_77 lfX7_10 sR_0_0 ?_
          refine FW.getR dX7_guest_80 lfX7_130 sR_1_5 ?_
          refine QW.iload_n dX7_guest_83 rfl ?_
          refine FW.iald (h1 4 a1.toNatClampNeg) dX7_guest_84 sA_4 vc.1 rfl ?_
          replace vc := vc.2
          exact FW.ret dX7_guest_85 rfl vc
        · replace vc := vc.2 c2
          by_cases c3 : a2 = (3 : Int32)
          · replace vc := vc.1 c3
            refine QW.tabIn 86 dX7_guest_15 (by rw [c3]; decide) (by rw [c3]; decide) (by rw [c3]; rfl) rfl ?_
            refine QW.aload_n dX7_guest_86 rfl ?_
            refine FW.getR dX7_guest_87 lfX7_10 sR_0_0 ?_
            refine FW.getR dX7_guest_90 lfX7_133 sR_1_6 ?_
            refine QW.iload_n dX7_guest_93 rfl ?_
            refine FW.iald (h1 5 a1.toNatClampNeg) dX7_guest_94 sA_5 vc.1 rfl ?_
            replace vc := vc.2
            exact FW.ret dX7_guest_95 rfl vc
          · replace vc := vc.2 c3
            by_cases c4 : a2 = (4 : Int32)
            · replace vc := vc.1 c4
              refine QW.tabIn 96 dX7_guest_15 (by rw [c4]; decide) (by rw [c4]; decide) (by rw [c4]; rfl) rfl ?_
              refine QW.aload_n dX7_guest_96 rfl ?_
              refine FW.getR dX7_guest_97 lfX7_10 sR_0_0 ?_
              refine FW.getR dX7_guest_100 lfX7_136 sR_1_7 ?_
              refine QW.iload_n dX7_guest_103 rfl ?_
              refine FW.iald (h1 6 a1.toNatClampNeg) dX7_guest_104 sA_6 vc.1 rfl ?_
              replace vc := vc.2
              exact FW.ret dX7_guest_105 rfl vc
            · replace vc := vc.2 c4
              by_cases c5 : a2 = (5 : Int32)
              · replace vc := vc.1 c5
                refine QW.tabIn 106 dX7_guest_15 (by rw [c5]; decide) (by rw [c5]; decide) (by rw [c5]; rfl) rfl ?_
                refine QW.aload_n dX7_guest_106 rfl ?_
                refine FW.getR dX7_guest_107 lfX7_53 sR_0_5 ?_
                refine FW.getR dX7_guest_110 lfX7_139 sR_26_5 ?_
                refine QW.iload_n dX7_guest_113 rfl ?_
                refine FW.iald (h1 28 a1.toNatClampNeg) dX7_guest_114 sA_28 vc.1 rfl ?_
                replace vc := vc.2
                exact FW.ret dX7_guest_115 rfl vc
              · replace vc := vc.2 c5
                by_cases c6 : a2 = (6 : Int32)
                · replace vc := vc.1 c6
                  refine QW.tabIn 116 dX7_guest_15 (by rw [c6]; decide) (by rw [c6]; decide) (by rw [c6]; rfl) rfl ?_
                  refine QW.aload_n dX7_guest_116 rfl ?_
                  refine FW.getR dX7_guest_117 lfX7_53 sR_0_5 ?_
                  refine FW.getR dX7_guest_120 lfX7_142 sR_26_7 ?_
                  refine QW.iload_n dX7_guest_123 rfl ?_
                  refine FW.iald (h1 30 a1.toNatClampNeg) dX7_guest_124 sA_30 vc.1 rfl ?_
                  replace vc := vc.2
                  exact FW.ret dX7_guest_125 rfl vc
                · replace vc := vc.2 c6
                  refine QW.tabOut 126 dX7_guest_15 (by have n0 := lv_neT c0 (a := 0) (by decide); have n1 := lv_neT c1 (a := 1) (by decide); have n2 := lv_neT c2 (a := 2) (by decide); have n3 := lv_neT c3 (a := 3) (by decide); have n4 := lv_neT c4 (a := 4) (by decide); have n5 := lv_neT c5 (a := 5) (by decide); have n6 := lv_neT c6 (a := 6) (by decide); omega) rfl ?_
                  refine QW.bipush (-3 : Int32) rfl dX7_guest_126 ?_
                  exact FW.ret dX7_guest_128 rfl vc
  · replace vc := vc.2 hc
    refine QW.bipush (-2 : Int32) rfl dX7_guest_11 ?_
    exact FW.ret dX7_guest_13 rfl vc
theorem vX8_walk_0 {g : QG} {K : Int32 → Hp → Prop} {h : Hp} {a1 : Int32} (vc : FI g mX8_in [.long a1.toInt64, .long (1 : Int64), .long (99 : Int64)] h (fun x1 h1 => (¬ x1 = 0 → (¬ (h1 45 1) = (1 : Int32) → (((h1 45 0) + a1) ≤ (9999 : Int32) → FW g mX8_walk 47 [some (.ref 44), some (.int a1), some (.int (0 : Int32))] [] h1 (q_RI K)) ∧ (¬ ((h1 45 0) + a1) ≤ (9999 : Int32) → K (-5 : Int32) h1)) ∧ ((h1 45 1) = (1 : Int32) → K (-4 : Int32) h1)) ∧ (x1 = 0 → K (-3 : Int32) h1))) : FW g mX8_walk 0 [some (.ref 44), some (.int a1), none] [] h (q_RI K) := by
  refine QW.iload_n dX8_walk_0 rfl ?_
  refine QW.i2l dX8_walk_1 ?_
  refine QW.lconst (1 : Int64) rfl dX8_walk_2 ?_
  refine QW.ldc2 dX8_walk_3 lkX8_207 ?_
  refine FW.callSi [.long a1.toInt64, .long (1 : Int64), .long (99 : Int64)] [] rfl dX8_walk_6 lmX8_70 rfl ⟨Nat.le_of_ble_eq_true rfl, Nat.le_of_ble_eq_true rfl⟩ ⟨rfl, rfl⟩ (Nat.le_of_ble_eq_true rfl) (FI.mono (fun x1 h1 vc => ?_) vc)
  refine QW.if_ne 15 dX8_walk_9 rfl (fun hc => ?_) (fun hc => ?_)
  · replace vc := vc.1 hc
    refine QW.aload_n dX8_walk_15 rfl ?_
    refine FW.getR dX8_walk_16 lfX8_7 sR_44_0 ?_
    refine QW.iconst (1 : Int32) rfl dX8_walk_19 ?_
    refine FW.iald (h1 45 1) dX8_walk_20 sA_45 (by unfold vp_in; decide) rfl ?_
    refine QW.iconst (1 : Int32) rfl dX8_walk_21 ?_
    refine QW.icmp_ne 28 dX8_walk_22 rfl (fun hc => ?_) (fun hc => ?_)
    · replace vc := vc.1 hc
      refine QW.aload_n dX8_walk_28 rfl ?_
      refine FW.getR dX8_walk_29 lfX8_7 sR_44_0 ?_
      refine QW.iconst (0 : Int32) rfl dX8_walk_32 ?_
      refine FW.iald (h1 45 0) dX8_walk_33 sA_45 (by unfold vp_in; decide) rfl ?_
      refine QW.iload_n dX8_walk_34 rfl ?_
      refine QW.iadd dX8_walk_35 ?_
      refine QW.sipush (9999 : Int32) rfl dX8_walk_36 ?_
      refine QW.icmp_le 45 dX8_walk_39 rfl (fun hc => ?_) (fun hc => ?_)
      · replace vc := vc.1 hc
        refine QW.iconst (0 : Int32) rfl dX8_walk_45 ?_
        refine QW.istore_n [some (.ref 44), some (.int a1), some (.int (0 : Int32))] dX8_walk_46 (by decide) rfl rfl ?_
        exact vc
      · replace vc := vc.2 hc
        refine QW.bipush (-5 : Int32) rfl dX8_walk_42 ?_
        exact FW.ret dX8_walk_44 rfl vc
    · replace vc := vc.2 hc
      refine QW.bipush (-4 : Int32) rfl dX8_walk_25 ?_
      exact FW.ret dX8_walk_27 rfl vc
  · replace vc := vc.2 hc
    refine QW.bipush (-3 : Int32) rfl dX8_walk_12 ?_
    exact FW.ret dX8_walk_14 rfl vc
theorem vX8_walk_47 {g : QG} {K : Int32 → Hp → Prop} {h : Hp} {a1 a2 : Int32} (vc : ((h 44 13) ≤ a2 → K ((h 45 0) + a1) (q_up h 45 0 ((h 45 0) + a1))) ∧ (¬ (h 44 13) ≤ a2 → vp_in ((3 : Int32) + a2) 81 ∧ vp_in a2 6 ∧ vp_in a2 6 ∧ FI g mX8_walked [.ref 44, .int (h 45 (((3 : Int32) + a2).toNatClampNeg)), .int (h 51 a2.toNatClampNeg), .int (h 52 a2.toNatClampNeg), .int a1] h (fun x1 h1 => vp_in ((3 : Int32) + a2) 81 ∧ FW g mX8_walk 47 [some (.ref 44), some (.int a1), some (.int (a2 + (1 : Int32)))] [] (q_up h1 45 (((3 : Int32) + a2).toNatClampNeg) x1) (q_RI K)))) : FW g mX8_walk 47 [some (.ref 44), some (.int a1), some (.int a2)] [] h (q_RI K) := by
  refine QW.iload_n dX8_walk_47 rfl ?_
  refine QW.aload_n dX8_walk_48 rfl ?_
  refine FW.getI (h 44 13) dX8_walk_49 lfX8_74 sI_44_13 rfl ?_
  refine QW.icmp_ge 94 dX8_walk_52 rfl (fun hc => ?_) (fun hc => ?_)
  · replace vc := vc.1 hc
    refine QW.aload_n dX8_walk_94 rfl ?_
    refine FW.getR dX8_walk_95 lfX8_7 sR_44_0 ?_
    refine QW.iconst (0 : Int32) rfl dX8_walk_98 ?_
    refine QW.dup2ir dX8_walk_99 ?_
    refine FW.iald (h 45 0) dX8_walk_100 sA_45 (by unfold vp_in; decide) rfl ?_
    refine QW.iload_n dX8_walk_101 rfl ?_
    refine QW.iadd dX8_walk_102 ?_
    refine FW.iast dX8_walk_103 sA_45 (by unfold vp_in; decide) ?_
    refine QW.aload_n dX8_walk_104 rfl ?_
    refine FW.getR dX8_walk_105 lfX8_7 sR_44_0 ?_
    refine QW.iconst (0 : Int32) rfl dX8_walk_108 ?_
    refine FW.iald ((h 45 0) + a1) dX8_walk_109 sA_45 (by unfold vp_in; decide) rfl ?_
    exact FW.ret dX8_walk_110 rfl vc
  · replace vc := vc.2 hc
    refine QW.aload_n dX8_walk_55 rfl ?_
    refine FW.getR dX8_walk_56 lfX8_7 sR_44_0 ?_
    refine QW.iconst (3 : Int32) rfl dX8_walk_59 ?_
    refine QW.iload_n dX8_walk_60 rfl ?_
    refine QW.iadd dX8_walk_61 ?_
    refine QW.aload_n dX8_walk_62 rfl ?_
    refine QW.aload_n dX8_walk_63 rfl ?_
    refine FW.getR dX8_walk_64 lfX8_7 sR_44_0 ?_
    refine QW.iconst (3 : Int32) rfl dX8_walk_67 ?_
    refine QW.iload_n dX8_walk_68 rfl ?_
    refine QW.iadd dX8_walk_69 ?_
    refine FW.iald (h 45 (((3 : Int32) + a2).toNatClampNeg)) dX8_walk_70 sA_45 vc.1 rfl ?_
    replace vc := vc.2
    refine QW.aload_n dX8_walk_71 rfl ?_
    refine FW.getR dX8_walk_72 lfX8_33 sR_44_10 ?_
    refine QW.iload_n dX8_walk_75 rfl ?_
    refine FW.iald (h 51 a2.toNatClampNeg) dX8_walk_76 sA_51 vc.1 rfl ?_
    replace vc := vc.2
    refine QW.aload_n dX8_walk_77 rfl ?_
    refine FW.getR dX8_walk_78 lfX8_36 sR_44_11 ?_
    refine QW.iload_n dX8_walk_81 rfl ?_
    refine FW.iald (h 52 a2.toNatClampNeg) dX8_walk_82 sA_52 vc.1 rfl ?_
    replace vc := vc.2
    refine QW.iload_n dX8_walk_83 rfl ?_
    refine FW.callVi [.int (h 45 (((3 : Int32) + a2).toNatClampNeg)), .int (h 51 a2.toNatClampNeg), .int (h 52 a2.toNatClampNeg), .int a1] [.int ((3 : Int32) + a2), .ref 45] rfl dX8_walk_84 lmX8_209 sC_44 rfl ⟨Nat.le_of_ble_eq_true rfl, Nat.le_of_ble_eq_true rfl⟩ ⟨rfl, rfl⟩ (Nat.le_of_ble_eq_true rfl) (FI.mono (fun x1 h1 vc => ?_) vc)
    refine FW.iast dX8_walk_87 sA_45 vc.1 ?_
    replace vc := vc.2
    refine QW.iinc (a2 + (1 : Int32)) [some (.ref 44), some (.int a1), some (.int (a2 + (1 : Int32)))] dX8_walk_88 rfl rfl (by decide) rfl rfl ?_
    refine QW.goto 47 dX8_walk_91 rfl ?_
    exact vc
theorem vX8_keep_0 {g : QG} {K : Int32 → Hp → Prop} {h : Hp} {a1 : Int32} (vc : FI g mX8_in [.long a1.toInt64, .long (0 : Int64), .long (1 : Int64)] h (fun x1 h1 => (¬ x1 = 0 → FV g mX8_copy [.ref 44, .int (0 : Int32), .int ((1 : Int32) + a1)] h1 (fun h2 => vp_in a1 2 ∧ K (h2 45 0) (q_up h2 46 a1.toNatClampNeg (1 : Int32)))) ∧ (x1 = 0 → K (-2 : Int32) h1))) : FW g mX8_keep 0 [some (.ref 44), some (.int a1)] [] h (q_RI K) := by
  refine QW.iload_n dX8_keep_0 rfl ?_
  refine QW.i2l dX8_keep_1 ?_
  refine QW.lconst (0 : Int64) rfl dX8_keep_2 ?_
  refine QW.lconst (1 : Int64) rfl dX8_keep_3 ?_
  refine FW.callSi [.long a1.toInt64, .long (0 : Int64), .long (1 : Int64)] [] rfl dX8_keep_4 lmX8_70 rfl ⟨Nat.le_of_ble_eq_true rfl, Nat.le_of_ble_eq_true rfl⟩ ⟨rfl, rfl⟩ (Nat.le_of_ble_eq_true rfl) (FI.mono (fun x1 h1 vc => ?_) vc)
  refine QW.if_ne 13 dX8_keep_7 rfl (fun hc => ?_) (fun hc => ?_)
  · replace vc := vc.1 hc
    refine QW.aload_n dX8_keep_13 rfl ?_
    refine QW.iconst (0 : Int32) rfl dX8_keep_14 ?_
    refine QW.iconst (1 : Int32) rfl dX8_keep_15 ?_
    refine QW.iload_n dX8_keep_16 rfl ?_
    refine QW.iadd dX8_keep_17 ?_
    refine FW.callVv [.int (0 : Int32), .int ((1 : Int32) + a1)] [] rfl dX8_keep_18 lmX8_222 sC_44 rfl ⟨Nat.le_of_ble_eq_true rfl, Nat.le_of_ble_eq_true rfl⟩ ⟨rfl, rfl⟩ (Nat.le_of_ble_eq_true rfl) (FV.mono (fun h2 vc => ?_) vc)
    refine QW.aload_n dX8_keep_21 rfl ?_
    refine FW.getR dX8_keep_22 lfX8_13 sR_44_1 ?_
    refine QW.iload_n dX8_keep_25 rfl ?_
    refine QW.iconst (1 : Int32) rfl dX8_keep_26 ?_
    refine FW.zast (Or.inr rfl) dX8_keep_27 sZ_46 vc.1 ?_
    replace vc := vc.2
    refine QW.aload_n dX8_keep_28 rfl ?_
    refine FW.getR dX8_keep_29 lfX8_7 sR_44_0 ?_
    refine QW.iconst (0 : Int32) rfl dX8_keep_32 ?_
    refine FW.iald (h2 45 0) dX8_keep_33 sA_45 (by unfold vp_in; decide) rfl ?_
    exact FW.ret dX8_keep_34 rfl vc
  · replace vc := vc.2 hc
    refine QW.bipush (-2 : Int32) rfl dX8_keep_10 ?_
    exact FW.ret dX8_keep_12 rfl vc
theorem vX8_back_0 {g : QG} {K : Int32 → Hp → Prop} {h : Hp} {a1 : Int32} (vc : FI g mX8_in [.long a1.toInt64, .long (0 : Int64), .long (1 : Int64)] h (fun x1 h1 => (¬ x1 = 0 → vp_in a1 2 ∧ (¬ (h1 46 a1.toNatClampNeg) = 0 → FV g mX8_copy [.ref 44, .int ((1 : Int32) + a1), .int (0 : Int32)] h1 (fun h2 => K (h2 45 0) h2)) ∧ ((h1 46 a1.toNatClampNeg) = 0 → K (-4 : Int32) h1)) ∧ (x1 = 0 → K (-2 : Int32) h1))) : FW g mX8_back 0 [some (.ref 44), some (.int a1)] [] h (q_RI K) := by
  refine QW.iload_n dX8_back_0 rfl ?_
  refine QW.i2l dX8_back_1 ?_
  refine QW.lconst (0 : Int64) rfl dX8_back_2 ?_
  refine QW.lconst (1 : Int64) rfl dX8_back_3 ?_
  refine FW.callSi [.long a1.toInt64, .long (0 : Int64), .long (1 : Int64)] [] rfl dX8_back_4 lmX8_70 rfl ⟨Nat.le_of_ble_eq_true rfl, Nat.le_of_ble_eq_true rfl⟩ ⟨rfl, rfl⟩ (Nat.le_of_ble_eq_true rfl) (FI.mono (fun x1 h1 vc => ?_) vc)
  refine QW.if_ne 13 dX8_back_7 rfl (fun hc => ?_) (fun hc => ?_)
  · replace vc := vc.1 hc
    refine QW.aload_n dX8_back_13 rfl ?_
    refine FW.getR dX8_back_14 lfX8_13 sR_44_1 ?_
    refine QW.iload_n dX8_back_17 rfl ?_
    refine FW.zald (h1 46 a1.toNatClampNeg) dX8_back_18 sZ_46 vc.1 rfl ?_
    replace vc := vc.2
    refine QW.if_ne 25 dX8_back_19 rfl (fun hc => ?_) (fun hc => ?_)
    · replace vc := vc.1 hc
      refine QW.aload_n dX8_back_25 rfl ?_
      refine QW.iconst (1 : Int32) rfl dX8_back_26 ?_
      refine QW.iload_n dX8_back_27 rfl ?_
      refine QW.iadd dX8_back_28 ?_
      refine QW.iconst (0 : Int32) rfl dX8_back_29 ?_
      refine FW.callVv [.int ((1 : Int32) + a1), .int (0 : Int32)] [] rfl dX8_back_30 lmX8_222 sC_44 rfl ⟨Nat.le_of_ble_eq_true rfl, Nat.le_of_ble_eq_true rfl⟩ ⟨rfl, rfl⟩ (Nat.le_of_ble_eq_true rfl) (FV.mono (fun h2 vc => ?_) vc)
      refine QW.aload_n dX8_back_33 rfl ?_
      refine FW.getR dX8_back_34 lfX8_7 sR_44_0 ?_
      refine QW.iconst (0 : Int32) rfl dX8_back_37 ?_
      refine FW.iald (h2 45 0) dX8_back_38 sA_45 (by unfold vp_in; decide) rfl ?_
      exact FW.ret dX8_back_39 rfl vc
    · replace vc := vc.2 hc
      refine QW.bipush (-4 : Int32) rfl dX8_back_22 ?_
      exact FW.ret dX8_back_24 rfl vc
  · replace vc := vc.2 hc
    refine QW.bipush (-2 : Int32) rfl dX8_back_10 ?_
    exact FW.ret dX8_back_12 rfl vc
theorem vX7_seen_0 {g : QG} {K : Int32 → Hp → Prop} {h : Hp} {a1 a2 : Int32} (vc : FI g mX6_hasGuest [.ref 1, .int a1] h (fun x1 h1 => (¬ x1 = 0 → FI g mX7_isEither [.int a2] h1 (fun x2 h2 => (¬ x2 = 0 → ((h2 41 0) < (6 : Int32) → FV g mX4_add [.ref 41, .int a1, .int a2] h2 (fun h3 => K (h3 41 0) h3)) ∧ (¬ (h2 41 0) < (6 : Int32) → K (-5 : Int32) h2)) ∧ (x2 = 0 → K (-3 : Int32) h2))) ∧ (x1 = 0 → K (-2 : Int32) h1))) : FW g mX7_seen 0 [some (.ref 0), some (.int a1), some (.int a2)] [] h (q_RI K) := by
  refine QW.aload_n dX7_seen_0 rfl ?_
  refine FW.getR dX7_seen_1 lfX7_10 sR_0_0 ?_
  refine QW.iload_n dX7_seen_4 rfl ?_
  refine FW.callVi [.int a1] [] rfl dX7_seen_5 lmX7_121 sC_1 rfl ⟨Nat.le_of_ble_eq_true rfl, Nat.le_of_ble_eq_true rfl⟩ ⟨rfl, rfl⟩ (Nat.le_of_ble_eq_true rfl) (FI.mono (fun x1 h1 vc => ?_) vc)
  refine QW.if_ne 14 dX7_seen_8 rfl (fun hc => ?_) (fun hc => ?_)
  · replace vc := vc.1 hc
    refine QW.iload_n dX7_seen_14 rfl ?_
    refine FW.callSi [.int a2] [] rfl dX7_seen_15 lmX7_193 rfl ⟨Nat.le_of_ble_eq_true rfl, Nat.le_of_ble_eq_true rfl⟩ ⟨rfl, rfl⟩ (Nat.le_of_ble_eq_true rfl) (FI.mono (fun x2 h2 vc => ?_) vc)
    refine QW.if_ne 24 dX7_seen_18 rfl (fun hc => ?_) (fun hc => ?_)
    · replace vc := vc.1 hc
      refine QW.aload_n dX7_seen_24 rfl ?_
      refine FW.getR dX7_seen_25 lfX7_66 sR_0_8 ?_
      refine FW.getI (h2 41 0) dX7_seen_28 lfX7_97 sI_41_0 rfl ?_
      refine QW.bipush (6 : Int32) rfl dX7_seen_31 ?_
      refine QW.icmp_lt 39 dX7_seen_33 rfl (fun hc => ?_) (fun hc => ?_)
      · replace vc := vc.1 hc
        refine QW.aload_n dX7_seen_39 rfl ?_
        refine FW.getR dX7_seen_40 lfX7_66 sR_0_8 ?_
        refine QW.iload_n dX7_seen_43 rfl ?_
        refine QW.iload_n dX7_seen_44 rfl ?_
        refine FW.callVv [.int a1, .int a2] [] rfl dX7_seen_45 lmX7_267 sC_41 rfl ⟨Nat.le_of_ble_eq_true rfl, Nat.le_of_ble_eq_true rfl⟩ ⟨rfl, rfl⟩ (Nat.le_of_ble_eq_true rfl) (FV.mono (fun h3 vc => ?_) vc)
        refine QW.aload_n dX7_seen_48 rfl ?_
        refine FW.getR dX7_seen_49 lfX7_66 sR_0_8 ?_
        refine FW.getI (h3 41 0) dX7_seen_52 lfX7_97 sI_41_0 rfl ?_
        exact FW.ret dX7_seen_55 rfl vc
      · replace vc := vc.2 hc
        refine QW.bipush (-5 : Int32) rfl dX7_seen_36 ?_
        exact FW.ret dX7_seen_38 rfl vc
    · replace vc := vc.2 hc
      refine QW.bipush (-3 : Int32) rfl dX7_seen_21 ?_
      exact FW.ret dX7_seen_23 rfl vc
  · replace vc := vc.2 hc
    refine QW.bipush (-2 : Int32) rfl dX7_seen_11 ?_
    exact FW.ret dX7_seen_13 rfl vc
theorem vX8_begin_0 {g : QG} {K : Hp → Prop} {h : Hp} (vc : FW g mX8_begin 2 [some (.ref 44), some (.int (0 : Int32))] [] h (q_RV K)) : FW g mX8_begin 0 [some (.ref 44), none] [] h (q_RV K) := by
  refine QW.iconst (0 : Int32) rfl dX8_begin_0 ?_
  refine QW.istore_n [some (.ref 44), some (.int (0 : Int32))] dX8_begin_1 (by decide) rfl rfl ?_
  exact vc
theorem vX8_begin_2 {g : QG} {K : Hp → Prop} {h : Hp} {a1 : Int32} (vc : ((27 : Int32) ≤ a1 → FW g mX8_begin 41 [some (.ref 44), some (.int (0 : Int32))] [] h (q_RV K)) ∧ (¬ (27 : Int32) ≤ a1 → FI g mX8_in [.long a1.toInt64, .long (9 : Int64), .long (20 : Int64)] h (fun x1 h1 => (x1 = 0 → vp_in a1 81 ∧ FW g mX8_begin 2 [some (.ref 44), some (.int (a1 + (1 : Int32)))] [] (q_up h1 45 a1.toNatClampNeg (0 : Int32)) (q_RV K)) ∧ (¬ x1 = 0 → vp_in a1 81 ∧ FW g mX8_begin 2 [some (.ref 44), some (.int (a1 + (1 : Int32)))] [] (q_up h1 45 a1.toNatClampNeg (-1 : Int32)) (q_RV K))))) : FW g mX8_begin 2 [some (.ref 44), some (.int a1)] [] h (q_RV K) := by
  refine QW.iload_n dX8_begin_2 rfl ?_
  refine QW.bipush (27 : Int32) rfl dX8_begin_3 ?_
  refine QW.icmp_ge 39 dX8_begin_5 rfl (fun hc => ?_) (fun hc => ?_)
  · replace vc := vc.1 hc
    refine QW.iconst (0 : Int32) rfl dX8_begin_39 ?_
    refine QW.istore_n [some (.ref 44), some (.int (0 : Int32))] dX8_begin_40 (by decide) rfl rfl ?_
    exact vc
  · replace vc := vc.2 hc
    refine QW.aload_n dX8_begin_8 rfl ?_
    refine FW.getR dX8_begin_9 lfX8_7 sR_44_0 ?_
    refine QW.iload_n dX8_begin_12 rfl ?_
    refine QW.iload_n dX8_begin_13 rfl ?_
    refine QW.i2l dX8_begin_14 ?_
    refine QW.ldc2 dX8_begin_15 lkX8_66 ?_
    refine QW.ldc2 dX8_begin_18 lkX8_68 ?_
    refine FW.callSi [.long a1.toInt64, .long (9 : Int64), .long (20 : Int64)] [.int a1, .ref 45] rfl dX8_begin_21 lmX8_70 rfl ⟨Nat.le_of_ble_eq_true rfl, Nat.le_of_ble_eq_true rfl⟩ ⟨rfl, rfl⟩ (Nat.le_of_ble_eq_true rfl) (FI.mono (fun x1 h1 vc => ?_) vc)
    refine QW.if_eq 31 dX8_begin_24 rfl (fun hc => ?_) (fun hc => ?_)
    · replace vc := vc.1 hc
      refine QW.iconst (0 : Int32) rfl dX8_begin_31 ?_
      refine FW.iast dX8_begin_32 sA_45 vc.1 ?_
      replace vc := vc.2
      refine QW.iinc (a1 + (1 : Int32)) [some (.ref 44), some (.int (a1 + (1 : Int32)))] dX8_begin_33 rfl rfl (by decide) rfl rfl ?_
      refine QW.goto 2 dX8_begin_36 rfl ?_
      exact vc
    · replace vc := vc.2 hc
      refine QW.iconst (-1 : Int32) rfl dX8_begin_27 ?_
      refine QW.goto 32 dX8_begin_28 rfl ?_
      refine FW.iast dX8_begin_32 sA_45 vc.1 ?_
      replace vc := vc.2
      refine QW.iinc (a1 + (1 : Int32)) [some (.ref 44), some (.int (a1 + (1 : Int32)))] dX8_begin_33 rfl rfl (by decide) rfl rfl ?_
      refine QW.goto 2 dX8_begin_36 rfl ?_
      exact vc
theorem vX8_begin_41 {g : QG} {K : Hp → Prop} {h : Hp} {a1 : Int32} (vc : ((h 44 13) ≤ a1 → K h) ∧ (¬ (h 44 13) ≤ a1 → vp_in a1 6 ∧ vp_in ((3 : Int32) + a1) 81 ∧ FW g mX8_begin 41 [some (.ref 44), some (.int (a1 + (1 : Int32)))] [] (q_up h 45 (((3 : Int32) + a1).toNatClampNeg) (h 50 a1.toNatClampNeg)) (q_RV K))) : FW g mX8_begin 41 [some (.ref 44), some (.int a1)] [] h (q_RV K) := by
  refine QW.iload_n dX8_begin_41 rfl ?_
  refine QW.aload_n dX8_begin_42 rfl ?_
  refine FW.getI (h 44 13) dX8_begin_43 lfX8_74 sI_44_13 rfl ?_
  refine QW.icmp_ge 69 dX8_begin_46 rfl (fun hc => ?_) (fun hc => ?_)
  · replace vc := vc.1 hc
    exact FW.retV dX8_begin_69 rfl vc
  · replace vc := vc.2 hc
    refine QW.aload_n dX8_begin_49 rfl ?_
    refine FW.getR dX8_begin_50 lfX8_7 sR_44_0 ?_
    refine QW.iconst (3 : Int32) rfl dX8_begin_53 ?_
    refine QW.iload_n dX8_begin_54 rfl ?_
    refine QW.iadd dX8_begin_55 ?_
    refine QW.aload_n dX8_begin_56 rfl ?_
    refine FW.getR dX8_begin_57 lfX8_30 sR_44_9 ?_
    refine QW.iload_n dX8_begin_60 rfl ?_
    refine FW.iald (h 50 a1.toNatClampNeg) dX8_begin_61 sA_50 vc.1 rfl ?_
    replace vc := vc.2
    refine FW.iast dX8_begin_62 sA_45 vc.1 ?_
    replace vc := vc.2
    refine QW.iinc (a1 + (1 : Int32)) [some (.ref 44), some (.int (a1 + (1 : Int32)))] dX8_begin_63 rfl rfl (by decide) rfl rfl ?_
    refine QW.goto 41 dX8_begin_66 rfl ?_
    exact vc
theorem vX8_token_0 {g : QG} {K : Hp → Prop} {h : Hp} (vc : ((h 44 3) ≤ (h 44 14) → FW g mX8_token 38 [some (.ref 44)] [] h (q_RV K)) ∧ (¬ (h 44 3) ≤ (h 44 14) → vp_in (h 44 14) 200 ∧ (¬ (h 47 ((h 44 14).toNatClampNeg)) = (32 : Int32) → FW g mX8_token 38 [some (.ref 44)] [] h (q_RV K)) ∧ ((h 47 ((h 44 14).toNatClampNeg)) = (32 : Int32) → FW g mX8_token 0 [some (.ref 44)] [] (q_up h 44 14 ((h 44 14) + (1 : Int32))) (q_RV K)))) : FW g mX8_token 0 [some (.ref 44)] [] h (q_RV K) := by
  refine QW.aload_n dX8_token_0 rfl ?_
  refine FW.getI (h 44 14) dX8_token_1 lfX8_84 sI_44_14 rfl ?_
  refine QW.aload_n dX8_token_4 rfl ?_
  refine FW.getI (h 44 3) dX8_token_5 lfX8_79 sI_44_3 rfl ?_
  refine QW.icmp_ge 38 dX8_token_8 rfl (fun hc => ?_) (fun hc => ?_)
  · replace vc := vc.1 hc
    exact vc
  · replace vc := vc.2 hc
    refine QW.aload_n dX8_token_11 rfl ?_
    refine FW.getR dX8_token_12 lfX8_17 sR_44_2 ?_
    refine QW.aload_n dX8_token_15 rfl ?_
    refine FW.getI (h 44 14) dX8_token_16 lfX8_84 sI_44_14 rfl ?_
    refine FW.iald (h 47 ((h 44 14).toNatClampNeg)) dX8_token_19 sA_47 vc.1 rfl ?_
    replace vc := vc.2
    refine QW.bipush (32 : Int32) rfl dX8_token_20 ?_
    refine QW.icmp_ne 38 dX8_token_22 rfl (fun hc => ?_) (fun hc => ?_)
    · replace vc := vc.1 hc
      exact vc
    · replace vc := vc.2 hc
      refine QW.aload_n dX8_token_25 rfl ?_
      refine QW.dupr dX8_token_26 ?_
      refine FW.getI (h 44 14) dX8_token_27 lfX8_84 sI_44_14 rfl ?_
      refine QW.iconst (1 : Int32) rfl dX8_token_30 ?_
      refine QW.iadd dX8_token_31 ?_
      refine FW.putI dX8_token_32 lfX8_84 sP_44_14 ?_
      refine QW.goto 0 dX8_token_35 rfl ?_
      exact vc
theorem vX8_token_38 {g : QG} {K : Hp → Prop} {h : Hp} (vc : ((h 44 3) ≤ (h 44 14) → FW g mX8_token 71 [some (.ref 44)] [] (q_up (q_up h 44 15 (h 44 14)) 44 14 ((h 44 14) + (0 : Int32))) (q_RV K)) ∧ (¬ (h 44 3) ≤ (h 44 14) → FW g mX8_token 71 [some (.ref 44)] [] (q_up (q_up h 44 15 (h 44 14)) 44 14 ((h 44 14) + (1 : Int32))) (q_RV K))) : FW g mX8_token 38 [some (.ref 44)] [] h (q_RV K) := by
  refine QW.aload_n dX8_token_38 rfl ?_
  refine QW.aload_n dX8_token_39 rfl ?_
  refine FW.getI (h 44 14) dX8_token_40 lfX8_84 sI_44_14 rfl ?_
  refine FW.putI dX8_token_43 lfX8_87 sP_44_15 ?_
  refine QW.aload_n dX8_token_46 rfl ?_
  refine QW.dupr dX8_token_47 ?_
  refine FW.getI (h 44 14) dX8_token_48 lfX8_84 sI_44_14 rfl ?_
  refine QW.aload_n dX8_token_51 rfl ?_
  refine FW.getI (h 44 14) dX8_token_52 lfX8_84 sI_44_14 rfl ?_
  refine QW.aload_n dX8_token_55 rfl ?_
  refine FW.getI (h 44 3) dX8_token_56 lfX8_79 sI_44_3 rfl ?_
  refine QW.icmp_ge 66 dX8_token_59 rfl (fun hc => ?_) (fun hc => ?_)
  · replace vc := vc.1 hc
    refine QW.iconst (0 : Int32) rfl dX8_token_66 ?_
    refine QW.iadd dX8_token_67 ?_
    refine FW.putI dX8_token_68 lfX8_84 sP_44_14 ?_
    exact vc
  · replace vc := vc.2 hc
    refine QW.iconst (1 : Int32) rfl dX8_token_62 ?_
    refine QW.goto 67 dX8_token_63 rfl ?_
    refine QW.iadd dX8_token_67 ?_
    refine FW.putI dX8_token_68 lfX8_84 sP_44_14 ?_
    exact vc
theorem vX8_token_71 {g : QG} {K : Hp → Prop} {h : Hp} (vc : ((h 44 3) ≤ (h 44 14) → K (q_up h 44 16 (h 44 14))) ∧ (¬ (h 44 3) ≤ (h 44 14) → vp_in (h 44 15) 200 ∧ FI g mX8_sort [.int (h 47 ((h 44 15).toNatClampNeg))] h (fun x1 h1 => (x1 ≤ 0 → K (q_up h1 44 16 (h1 44 14))) ∧ (¬ x1 ≤ 0 → vp_in (h1 44 14) 200 ∧ FI g mX8_sort [.int (h1 47 ((h1 44 14).toNatClampNeg))] h1 (fun x2 h2 => vp_in (h2 44 15) 200 ∧ FI g mX8_sort [.int (h2 47 ((h2 44 15).toNatClampNeg))] h2 (fun x3 h3 => (¬ x2 = x3 → K (q_up h3 44 16 (h3 44 14))) ∧ (x2 = x3 → FW g mX8_token 71 [some (.ref 44)] [] (q_up h3 44 14 ((h3 44 14) + (1 : Int32))) (q_RV K)))))))) : FW g mX8_token 71 [some (.ref 44)] [] h (q_RV K) := by
  refine QW.aload_n dX8_token_71 rfl ?_
  refine FW.getI (h 44 14) dX8_token_72 lfX8_84 sI_44_14 rfl ?_
  refine QW.aload_n dX8_token_75 rfl ?_
  refine FW.getI (h 44 3) dX8_token_76 lfX8_79 sI_44_3 rfl ?_
  refine QW.icmp_ge 137 dX8_token_79 rfl (fun hc => ?_) (fun hc => ?_)
  · replace vc := vc.1 hc
    refine QW.aload_n dX8_token_137 rfl ?_
    refine QW.aload_n dX8_token_138 rfl ?_
    refine FW.getI (h 44 14) dX8_token_139 lfX8_84 sI_44_14 rfl ?_
    refine FW.putI dX8_token_142 lfX8_94 sP_44_16 ?_
    exact FW.retV dX8_token_145 rfl vc
  · replace vc := vc.2 hc
    refine QW.aload_n dX8_token_82 rfl ?_
    refine FW.getR dX8_token_83 lfX8_17 sR_44_2 ?_
    refine QW.aload_n dX8_token_86 rfl ?_
    refine FW.getI (h 44 15) dX8_token_87 lfX8_87 sI_44_15 rfl ?_
    refine FW.iald (h 47 ((h 44 15).toNatClampNeg)) dX8_token_90 sA_47 vc.1 rfl ?_
    replace vc := vc.2
    refine FW.callSi [.int (h 47 ((h 44 15).toNatClampNeg))] [] rfl dX8_token_91 lmX8_90 rfl ⟨Nat.le_of_ble_eq_true rfl, Nat.le_of_ble_eq_true rfl⟩ ⟨rfl, rfl⟩ (Nat.le_of_ble_eq_true rfl) (FI.mono (fun x1 h1 vc => ?_) vc)
    refine QW.if_le 137 dX8_token_94 rfl (fun hc => ?_) (fun hc => ?_)
    · replace vc := vc.1 hc
      refine QW.aload_n dX8_token_137 rfl ?_
      refine QW.aload_n dX8_token_138 rfl ?_
      refine FW.getI (h1 44 14) dX8_token_139 lfX8_84 sI_44_14 rfl ?_
      refine FW.putI dX8_token_142 lfX8_94 sP_44_16 ?_
      exact FW.retV dX8_token_145 rfl vc
    · replace vc := vc.2 hc
      refine QW.aload_n dX8_token_97 rfl ?_
      refine FW.getR dX8_token_98 lfX8_17 sR_44_2 ?_
      refine QW.aload_n dX8_token_101 rfl ?_
      refine FW.getI (h1 44 14) dX8_token_102 lfX8_84 sI_44_14 rfl ?_
      refine FW.iald (h1 47 ((h1 44 14).toNatClampNeg)) dX8_token_105 sA_47 vc.1 rfl ?_
      replace vc := vc.2
      refine FW.callSi [.int (h1 47 ((h1 44 14).toNatClampNeg))] [] rfl dX8_token_106 lmX8_90 rfl ⟨Nat.le_of_ble_eq_true rfl, Nat.le_of_ble_eq_true rfl⟩ ⟨rfl, rfl⟩ (Nat.le_of_ble_eq_true rfl) (FI.mono (fun x2 h2 vc => ?_) vc)
      refine QW.aload_n dX8_token_109 rfl ?_
      refine FW.getR dX8_token_110 lfX8_17 sR_44_2 ?_
      refine QW.aload_n dX8_token_113 rfl ?_
      refine FW.getI (h2 44 15) dX8_token_114 lfX8_87 sI_44_15 rfl ?_
      refine FW.iald (h2 47 ((h2 44 15).toNatClampNeg)) dX8_token_117 sA_47 vc.1 rfl ?_
      replace vc := vc.2
      refine FW.callSi [.int (h2 47 ((h2 44 15).toNatClampNeg))] [.int x2] rfl dX8_token_118 lmX8_90 rfl ⟨Nat.le_of_ble_eq_true rfl, Nat.le_of_ble_eq_true rfl⟩ ⟨rfl, rfl⟩ (Nat.le_of_ble_eq_true rfl) (FI.mono (fun x3 h3 vc => ?_) vc)
      refine QW.icmp_ne 137 dX8_token_121 rfl (fun hc => ?_) (fun hc => ?_)
      · replace vc := vc.1 hc
        refine QW.aload_n dX8_token_137 rfl ?_
        refine QW.aload_n dX8_token_138 rfl ?_
        refine FW.getI (h3 44 14) dX8_token_139 lfX8_84 sI_44_14 rfl ?_
        refine FW.putI dX8_token_142 lfX8_94 sP_44_16 ?_
        exact FW.retV dX8_token_145 rfl vc
      · replace vc := vc.2 hc
        refine QW.aload_n dX8_token_124 rfl ?_
        refine QW.dupr dX8_token_125 ?_
        refine FW.getI (h3 44 14) dX8_token_126 lfX8_84 sI_44_14 rfl ?_
        refine QW.iconst (1 : Int32) rfl dX8_token_129 ?_
        refine QW.iadd dX8_token_130 ?_
        refine FW.putI dX8_token_131 lfX8_84 sP_44_14 ?_
        refine QW.goto 71 dX8_token_134 rfl ?_
        exact vc
theorem vX6_copyFrom_r1_9_0 {g : QG} {K : Hp → Prop} {h : Hp} (vc : K (q_upA (q_upA (q_upA (q_upA (q_upA (q_up (q_up (q_up h 1 0 (h 9 0)) 1 1 (h 9 1)) 1 2 (h 9 2)) 2 (va_cpy (h 10) (h 2) 0 0 6)) 3 (va_cpy (h 11) (h 3) 0 0 6)) 4 (va_cpy (h 12) (h 4) 0 0 6)) 5 (va_cpy (h 13) (h 5) 0 0 6)) 6 (va_cpy (h 14) (h 6) 0 0 6))) : FW g mX6_copyFrom 0 [some (.ref 1), some (.ref 9)] [] h (q_RV K) := by
  refine QW.aload_n dX6_copyFrom_0 rfl ?_
  refine QW.aload_n dX6_copyFrom_1 rfl ?_
  refine FW.getI (h 9 0) dX6_copyFrom_2 lfX6_9 sI_9_0 rfl ?_
  refine FW.putI dX6_copyFrom_5 lfX6_9 sP_1_0 ?_
  refine QW.aload_n dX6_copyFrom_8 rfl ?_
  refine QW.aload_n dX6_copyFrom_9 rfl ?_
  refine FW.getI (h 9 1) dX6_copyFrom_10 lfX6_31 sI_9_1 rfl ?_
  refine FW.putI dX6_copyFrom_13 lfX6_31 sP_1_1 ?_
  refine QW.aload_n dX6_copyFrom_16 rfl ?_
  refine QW.aload_n dX6_copyFrom_17 rfl ?_
  refine FW.getI (h 9 2) dX6_copyFrom_18 lfX6_34 sI_9_2 rfl ?_
  refine FW.putI dX6_copyFrom_21 lfX6_34 sP_1_2 ?_
  refine QW.aload_n dX6_copyFrom_24 rfl ?_
  refine FW.getR dX6_copyFrom_25 lfX6_15 sR_9_3 ?_
  refine QW.iconst (0 : Int32) rfl dX6_copyFrom_28 ?_
  refine QW.aload_n dX6_copyFrom_29 rfl ?_
  refine FW.getR dX6_copyFrom_30 lfX6_15 sR_1_3 ?_
  refine QW.iconst (0 : Int32) rfl dX6_copyFrom_33 ?_
  refine QW.bipush (6 : Int32) rfl dX6_copyFrom_34 ?_
  refine FW.copy dX6_copyFrom_36 lyX6_37 sA_10 sA_2 (by decide) (Nat.le_of_ble_eq_true rfl) (by decide) ?_
  refine QW.aload_n dX6_copyFrom_39 rfl ?_
  refine FW.getR dX6_copyFrom_40 lfX6_19 sR_9_4 ?_
  refine QW.iconst (0 : Int32) rfl dX6_copyFrom_43 ?_
  refine QW.aload_n dX6_copyFrom_44 rfl ?_
  refine FW.getR dX6_copyFrom_45 lfX6_19 sR_1_4 ?_
  refine QW.iconst (0 : Int32) rfl dX6_copyFrom_48 ?_
  refine QW.bipush (6 : Int32) rfl dX6_copyFrom_49 ?_
  refine FW.copy dX6_copyFrom_51 lyX6_37 sA_11 sA_3 (by decide) (Nat.le_of_ble_eq_true rfl) (by decide) ?_
  refine QW.aload_n dX6_copyFrom_54 rfl ?_
  refine FW.getR dX6_copyFrom_55 lfX6_22 sR_9_5 ?_
  refine QW.iconst (0 : Int32) rfl dX6_copyFrom_58 ?_
  refine QW.aload_n dX6_copyFrom_59 rfl ?_
  refine FW.getR dX6_copyFrom_60 lfX6_22 sR_1_5 ?_
  refine QW.iconst (0 : Int32) rfl dX6_copyFrom_63 ?_
  refine QW.bipush (6 : Int32) rfl dX6_copyFrom_64 ?_
  refine FW.copy dX6_copyFrom_66 lyX6_37 sA_12 sA_4 (by decide) (Nat.le_of_ble_eq_true rfl) (by decide) ?_
  refine QW.aload_n dX6_copyFrom_69 rfl ?_
  refine FW.getR dX6_copyFrom_70 lfX6_25 sR_9_6 ?_
  refine QW.iconst (0 : Int32) rfl dX6_copyFrom_73 ?_
  refine QW.aload_n dX6_copyFrom_74 rfl ?_
  refine FW.getR dX6_copyFrom_75 lfX6_25 sR_1_6 ?_
  refine QW.iconst (0 : Int32) rfl dX6_copyFrom_78 ?_
  refine QW.bipush (6 : Int32) rfl dX6_copyFrom_79 ?_
  refine FW.copy dX6_copyFrom_81 lyX6_37 sA_13 sA_5 (by decide) (Nat.le_of_ble_eq_true rfl) (by decide) ?_
  refine QW.aload_n dX6_copyFrom_84 rfl ?_
  refine FW.getR dX6_copyFrom_85 lfX6_28 sR_9_7 ?_
  refine QW.iconst (0 : Int32) rfl dX6_copyFrom_88 ?_
  refine QW.aload_n dX6_copyFrom_89 rfl ?_
  refine FW.getR dX6_copyFrom_90 lfX6_28 sR_1_7 ?_
  refine QW.iconst (0 : Int32) rfl dX6_copyFrom_93 ?_
  refine QW.bipush (6 : Int32) rfl dX6_copyFrom_94 ?_
  refine FW.copy dX6_copyFrom_96 lyX6_37 sA_14 sA_6 (by decide) (Nat.le_of_ble_eq_true rfl) (by decide) ?_
  exact FW.retV dX6_copyFrom_99 rfl vc
theorem vX6_hasChair_r1_0 {g : QG} {K : Int32 → Hp → Prop} {h : Hp} {a1 : Int32} (vc : FI g mX6_hasPlace [.ref 1, .int a1] h (fun x1 h1 => (x1 = 0 → K (0 : Int32) h1) ∧ (¬ x1 = 0 → FI g mX7_holds [.int (h1 1 1), .int a1] h1 (fun x2 h2 => (x2 = 0 → K (0 : Int32) h2) ∧ (¬ x2 = 0 → K (1 : Int32) h2))))) : FW g mX6_hasChair 0 [some (.ref 1), some (.int a1)] [] h (q_RI K) := by
  refine QW.aload_n dX6_hasChair_0 rfl ?_
  refine QW.iload_n dX6_hasChair_1 rfl ?_
  refine FW.callVi [.int a1] [] rfl dX6_hasChair_2 lmX6_43 sC_1 rfl ⟨Nat.le_of_ble_eq_true rfl, Nat.le_of_ble_eq_true rfl⟩ ⟨rfl, rfl⟩ (Nat.le_of_ble_eq_true rfl) (FI.mono (fun x1 h1 vc => ?_) vc)
  refine QW.if_eq 23 dX6_hasChair_5 rfl (fun hc => ?_) (fun hc => ?_)
  · replace vc := vc.1 hc
    refine QW.iconst (0 : Int32) rfl dX6_hasChair_23 ?_
    exact FW.retZ (Or.inl rfl) dX6_hasChair_24 rfl vc
  · replace vc := vc.2 hc
    refine QW.aload_n dX6_hasChair_8 rfl ?_
    refine FW.getI (h1 1 1) dX6_hasChair_9 lfX6_31 sI_1_1 rfl ?_
    refine QW.iload_n dX6_hasChair_12 rfl ?_
    refine FW.callNi [.int (h1 1 1), .int a1] [] rfl dX6_hasChair_13 lmX6_47 rfl ⟨Nat.le_of_ble_eq_true rfl, Nat.le_of_ble_eq_true rfl⟩ ⟨rfl, rfl⟩ (Nat.le_of_ble_eq_true rfl) (FI.mono (fun x2 h2 vc => ?_) vc)
    refine QW.if_eq 23 dX6_hasChair_16 rfl (fun hc => ?_) (fun hc => ?_)
    · replace vc := vc.1 hc
      refine QW.iconst (0 : Int32) rfl dX6_hasChair_23 ?_
      exact FW.retZ (Or.inl rfl) dX6_hasChair_24 rfl vc
    · replace vc := vc.2 hc
      refine QW.iconst (1 : Int32) rfl dX6_hasChair_19 ?_
      refine QW.goto 24 dX6_hasChair_20 rfl ?_
      exact FW.retZ (Or.inr rfl) dX6_hasChair_24 rfl vc
theorem vX8_isPlace_0 {g : QG} {K : Int32 → Hp → Prop} {h : Hp} {a1 : Int32} (vc : FI g mX8_in [.long a1.toInt64, .long (0 : Int64), .long (((h 44 6) - (1 : Int32)).toInt64)] h (fun x1 h1 => q_bool x1 ∧ K x1 h1)) : FW g mX8_isPlace 0 [some (.ref 44), some (.int a1)] [] h (q_RI K) := by
  refine QW.iload_n dX8_isPlace_0 rfl ?_
  refine QW.i2l dX8_isPlace_1 ?_
  refine QW.lconst (0 : Int64) rfl dX8_isPlace_2 ?_
  refine QW.aload_n dX8_isPlace_3 rfl ?_
  refine FW.getI (h 44 6) dX8_isPlace_4 lfX8_23 sI_44_6 rfl ?_
  refine QW.iconst (1 : Int32) rfl dX8_isPlace_7 ?_
  refine QW.isub dX8_isPlace_8 ?_
  refine QW.i2l dX8_isPlace_9 ?_
  refine FW.callSi [.long a1.toInt64, .long (0 : Int64), .long (((h 44 6) - (1 : Int32)).toInt64)] [] rfl dX8_isPlace_10 lmX8_70 rfl ⟨Nat.le_of_ble_eq_true rfl, Nat.le_of_ble_eq_true rfl⟩ ⟨rfl, rfl⟩ (Nat.le_of_ble_eq_true rfl) (FI.mono (fun x1 h1 vc => ?_) vc)
  exact FW.retZ vc.1 dX8_isPlace_13 rfl vc.2
theorem vX8_isGuest_0 {g : QG} {K : Int32 → Hp → Prop} {h : Hp} {a1 : Int32} (vc : FI g mX8_in [.long a1.toInt64, .long (0 : Int64), .long (((h 44 13) - (1 : Int32)).toInt64)] h (fun x1 h1 => q_bool x1 ∧ K x1 h1)) : FW g mX8_isGuest 0 [some (.ref 44), some (.int a1)] [] h (q_RI K) := by
  refine QW.iload_n dX8_isGuest_0 rfl ?_
  refine QW.i2l dX8_isGuest_1 ?_
  refine QW.lconst (0 : Int64) rfl dX8_isGuest_2 ?_
  refine QW.aload_n dX8_isGuest_3 rfl ?_
  refine FW.getI (h 44 13) dX8_isGuest_4 lfX8_74 sI_44_13 rfl ?_
  refine QW.iconst (1 : Int32) rfl dX8_isGuest_7 ?_
  refine QW.isub dX8_isGuest_8 ?_
  refine QW.i2l dX8_isGuest_9 ?_
  refine FW.callSi [.long a1.toInt64, .long (0 : Int64), .long (((h 44 13) - (1 : Int32)).toInt64)] [] rfl dX8_isGuest_10 lmX8_70 rfl ⟨Nat.le_of_ble_eq_true rfl, Nat.le_of_ble_eq_true rfl⟩ ⟨rfl, rfl⟩ (Nat.le_of_ble_eq_true rfl) (FI.mono (fun x1 h1 vc => ?_) vc)
  exact FW.retZ vc.1 dX8_isGuest_13 rfl vc.2
theorem vX8_effort_0 {g : QG} {K : Int32 → Hp → Prop} {h : Hp} {a1 a2 a3 : Int32} (vc : FI g mX8_far [.ref 44, .int a2, .int a3] h (fun x1 h1 => vp_in a1 6 ∧ (¬ (h1 49 a1.toNatClampNeg) = (1 : Int32) → K (x1 - (0 : Int32)) h1) ∧ ((h1 49 a1.toNatClampNeg) = (1 : Int32) → K (x1 - (1 : Int32)) h1))) : FW g mX8_effort 0 [some (.ref 44), some (.int a1), some (.int a2), some (.int a3)] [] h (q_RI K) := by
  refine QW.aload_n dX8_effort_0 rfl ?_
  refine QW.iload_n dX8_effort_1 rfl ?_
  refine QW.iload_n dX8_effort_2 rfl ?_
  refine FW.callVi [.int a2, .int a3] [] rfl dX8_effort_3 lmX8_176 sC_44 rfl ⟨Nat.le_of_ble_eq_true rfl, Nat.le_of_ble_eq_true rfl⟩ ⟨rfl, rfl⟩ (Nat.le_of_ble_eq_true rfl) (FI.mono (fun x1 h1 vc => ?_) vc)
  refine QW.aload_n dX8_effort_6 rfl ?_
  refine FW.getR dX8_effort_7 lfX8_27 sR_44_8 ?_
  refine QW.iload_n dX8_effort_10 rfl ?_
  refine FW.iald (h1 49 a1.toNatClampNeg) dX8_effort_11 sA_49 vc.1 rfl ?_
  replace vc := vc.2
  refine QW.iconst (1 : Int32) rfl dX8_effort_12 ?_
  refine QW.icmp_ne 20 dX8_effort_13 rfl (fun hc => ?_) (fun hc => ?_)
  · replace vc := vc.1 hc
    refine QW.iconst (0 : Int32) rfl dX8_effort_20 ?_
    refine QW.isub dX8_effort_21 ?_
    exact FW.ret dX8_effort_22 rfl vc
  · replace vc := vc.2 hc
    refine QW.iconst (1 : Int32) rfl dX8_effort_16 ?_
    refine QW.goto 21 dX8_effort_17 rfl ?_
    refine QW.isub dX8_effort_21 ?_
    exact FW.ret dX8_effort_22 rfl vc
theorem vX0_end_0 {g : QG} {K : Hp → Prop} {h : Hp} {a3 : Int32} (vc : FI g mJ6_bitCount_0f7a4 [.int a3] (q_upA (q_upA (q_up (q_up h 26 1 (0 : Int32)) 26 3 a3) 28 (va_cpy (h 18) (h 28) 0 0 6)) 29 (va_cpy (h 19) (h 29) 0 0 12)) (fun x1 h1 => (¬ x1 = 0 → FI g mX6_allWorth [.ref 1] h1 (fun x2 h2 => (¬ x1 = 0) ∧ FW g mX0_end 67 [some (.ref 26), some (.ref 1), none, some (.int a3), none, some (.int (x2 / x1)), some (.int (0 : Int32))] [] h2 (q_RV K))) ∧ (x1 = 0 → FW g mX0_end 67 [some (.ref 26), some (.ref 1), none, some (.int a3), none, some (.int (0 : Int32)), some (.int (0 : Int32))] [] h1 (q_RV K)))) : FW g mX0_end 0 [some (.ref 26), some (.ref 1), some (.ref 16), some (.int a3), none, none, none] [] h (q_RV K) := by
  refine QW.aload_n dX0_end_0 rfl ?_
  refine QW.iconst (0 : Int32) rfl dX0_end_1 ?_
  refine FW.putZ (Or.inl rfl) dX0_end_2 lfX0_9 sP_26_1 ?_
  refine QW.aload_n dX0_end_5 rfl ?_
  refine QW.iload_n dX0_end_6 rfl ?_
  refine FW.putI dX0_end_7 lfX0_52 sP_26_3 ?_
  refine QW.aload_n dX0_end_10 rfl ?_
  refine FW.getR dX0_end_11 lfX0_68 sR_16_2 ?_
  refine QW.iconst (0 : Int32) rfl dX0_end_14 ?_
  refine QW.aload_n dX0_end_15 rfl ?_
  refine FW.getR dX0_end_16 lfX0_19 sR_26_5 ?_
  refine QW.iconst (0 : Int32) rfl dX0_end_19 ?_
  refine QW.bipush (6 : Int32) rfl dX0_end_20 ?_
  refine FW.copy dX0_end_22 lyX0_43 sA_18 sA_28 (by decide) (Nat.le_of_ble_eq_true rfl) (by decide) ?_
  refine QW.aload_n dX0_end_25 rfl ?_
  refine FW.getR dX0_end_26 lfX0_71 sR_16_3 ?_
  refine QW.iconst (0 : Int32) rfl dX0_end_29 ?_
  refine QW.aload_n dX0_end_30 rfl ?_
  refine FW.getR dX0_end_31 lfX0_22 sR_26_6 ?_
  refine QW.iconst (0 : Int32) rfl dX0_end_34 ?_
  refine QW.bipush (12 : Int32) rfl dX0_end_35 ?_
  refine FW.copy dX0_end_37 lyX0_43 sA_19 sA_29 (by decide) (Nat.le_of_ble_eq_true rfl) (by decide) ?_
  refine QW.iload_n dX0_end_40 rfl ?_
  refine FW.callSi [.int a3] [] rfl dX0_end_41 lmX0_72 rfl ⟨Nat.le_of_ble_eq_true rfl, Nat.le_of_ble_eq_true rfl⟩ ⟨rfl, rfl⟩ (Nat.le_of_ble_eq_true rfl) (FI.mono (fun x1 h1 vc => ?_) vc)
  refine QW.istore [some (.ref 26), some (.ref 1), some (.ref 16), some (.int a3), some (.int x1), none, none] dX0_end_44 (by decide) rfl rfl ?_
  refine QW.iload dX0_end_46 rfl ?_
  refine QW.if_ne 55 dX0_end_48 rfl (fun hc => ?_) (fun hc => ?_)
  · replace vc := vc.1 hc
    refine QW.aload_n dX0_end_55 rfl ?_
    refine FW.callVi [] [] rfl dX0_end_56 lmX0_78 sC_1 rfl ⟨Nat.le_of_ble_eq_true rfl, Nat.le_of_ble_eq_true rfl⟩ ⟨rfl, rfl⟩ (Nat.le_of_ble_eq_true rfl) (FI.mono (fun x2 h2 vc => ?_) vc)
    refine QW.iload dX0_end_59 rfl ?_
    refine QW.idiv vc.1 dX0_end_61 ?_
    replace vc := vc.2
    refine QW.istore [some (.ref 26), some (.ref 1), some (.ref 16), some (.int a3), some (.int x1), some (.int (x2 / x1)), none] dX0_end_62 (by decide) rfl rfl ?_
    refine QW.iconst (0 : Int32) rfl dX0_end_64 ?_
    refine QW.istore [some (.ref 26), some (.ref 1), some (.ref 16), some (.int a3), some (.int x1), some (.int (x2 / x1)), some (.int (0 : Int32))] dX0_end_65 (by decide) rfl rfl ?_
    exact QW.sub (by exact ⟨rfl, ⟨rfl, ⟨rfl, ⟨rfl, ⟨rfl, trivial⟩⟩⟩⟩⟩) vc
  · replace vc := vc.2 hc
    refine QW.iconst (0 : Int32) rfl dX0_end_51 ?_
    refine QW.goto 62 dX0_end_52 rfl ?_
    refine QW.istore [some (.ref 26), some (.ref 1), some (.ref 16), some (.int a3), some (.int x1), some (.int (0 : Int32)), none] dX0_end_62 (by decide) rfl rfl ?_
    refine QW.iconst (0 : Int32) rfl dX0_end_64 ?_
    refine QW.istore [some (.ref 26), some (.ref 1), some (.ref 16), some (.int a3), some (.int x1), some (.int (0 : Int32)), some (.int (0 : Int32))] dX0_end_65 (by decide) rfl rfl ?_
    exact QW.sub (by exact ⟨rfl, ⟨rfl, ⟨rfl, ⟨rfl, ⟨rfl, trivial⟩⟩⟩⟩⟩) vc
theorem vX0_end_67 {g : QG} {K : Hp → Prop} {h : Hp} {a3 a5 a6 : Int32} (vc : ((h 1 2) ≤ a6 → K h) ∧ (¬ (h 1 2) ≤ a6 → vp_in a6 6 ∧ ((h 28 a6.toNatClampNeg) = (-1 : Int32) → FW g mX0_end 101 [some (.ref 26), some (.ref 1), none, some (.int a3), none, some (.int a5), some (.int a6)] [] h (q_RV K)) ∧ (¬ (h 28 a6.toNatClampNeg) = (-1 : Int32) → vp_in a6 6 ∧ vp_in a6 6 ∧ FW g mX0_end 101 [some (.ref 26), some (.ref 1), none, some (.int a3), none, some (.int a5), some (.int a6)] [] (q_up h 27 a6.toNatClampNeg (h 28 a6.toNatClampNeg)) (q_RV K)))) : FW g mX0_end 67 [some (.ref 26), some (.ref 1), none, some (.int a3), none, some (.int a5), some (.int a6)] [] h (q_RV K) := by
  refine QW.iload dX0_end_67 rfl ?_
  refine QW.aload_n dX0_end_69 rfl ?_
  refine FW.getI (h 1 2) dX0_end_70 lfX0_55 sI_1_2 rfl ?_
  refine QW.icmp_ge 128 dX0_end_73 rfl (fun hc => ?_) (fun hc => ?_)
  · replace vc := vc.1 hc
    exact FW.retV dX0_end_128 rfl vc
  · replace vc := vc.2 hc
    refine QW.aload_n dX0_end_76 rfl ?_
    refine FW.getR dX0_end_77 lfX0_19 sR_26_5 ?_
    refine QW.iload dX0_end_80 rfl ?_
    refine FW.iald (h 28 a6.toNatClampNeg) dX0_end_82 sA_28 vc.1 rfl ?_
    replace vc := vc.2
    refine QW.iconst (-1 : Int32) rfl dX0_end_83 ?_
    refine QW.icmp_eq 101 dX0_end_84 rfl (fun hc => ?_) (fun hc => ?_)
    · replace vc := vc.1 hc
      exact vc
    · replace vc := vc.2 hc
      refine QW.aload_n dX0_end_87 rfl ?_
      refine FW.getR dX0_end_88 lfX0_15 sR_26_4 ?_
      refine QW.iload dX0_end_91 rfl ?_
      refine QW.aload_n dX0_end_93 rfl ?_
      refine FW.getR dX0_end_94 lfX0_19 sR_26_5 ?_
      refine QW.iload dX0_end_97 rfl ?_
      refine FW.iald (h 28 a6.toNatClampNeg) dX0_end_99 sA_28 vc.1 rfl ?_
      replace vc := vc.2
      refine FW.iast dX0_end_100 sA_27 vc.1 ?_
      replace vc := vc.2
      exact vc
theorem vX0_end_101 {g : QG} {K : Hp → Prop} {h : Hp} {a3 a5 a6 : Int32} (vc : FI g mX7_holds [.int a3, .int a6] h (fun x1 h1 => (x1 = 0 → FW g mX0_end 67 [some (.ref 26), some (.ref 1), none, some (.int a3), none, some (.int a5), some (.int (a6 + (1 : Int32)))] [] h1 (q_RV K)) ∧ (¬ x1 = 0 → vp_in a6 6 ∧ vp_in a6 6 ∧ FW g mX0_end 67 [some (.ref 26), some (.ref 1), none, some (.int a3), none, some (.int a5), some (.int (a6 + (1 : Int32)))] [] (q_up h1 30 a6.toNatClampNeg ((h1 30 a6.toNatClampNeg) + a5)) (q_RV K)))) : FW g mX0_end 101 [some (.ref 26), some (.ref 1), none, some (.int a3), none, some (.int a5), some (.int a6)] [] h (q_RV K) := by
  refine QW.iload_n dX0_end_101 rfl ?_
  refine QW.iload dX0_end_102 rfl ?_
  refine FW.callNi [.int a3, .int a6] [] rfl dX0_end_104 lmX0_82 rfl ⟨Nat.le_of_ble_eq_true rfl, Nat.le_of_ble_eq_true rfl⟩ ⟨rfl, rfl⟩ (Nat.le_of_ble_eq_true rfl) (FI.mono (fun x1 h1 vc => ?_) vc)
  refine QW.if_eq 122 dX0_end_107 rfl (fun hc => ?_) (fun hc => ?_)
  · replace vc := vc.1 hc
    refine QW.iinc (a6 + (1 : Int32)) [some (.ref 26), some (.ref 1), none, some (.int a3), none, some (.int a5), some (.int (a6 + (1 : Int32)))] dX0_end_122 rfl rfl (by decide) rfl rfl ?_
    refine QW.goto 67 dX0_end_125 rfl ?_
    exact vc
  · replace vc := vc.2 hc
    refine QW.aload_n dX0_end_110 rfl ?_
    refine FW.getR dX0_end_111 lfX0_25 sR_26_7 ?_
    refine QW.iload dX0_end_114 rfl ?_
    refine QW.dup2ir dX0_end_116 ?_
    refine FW.iald (h1 30 a6.toNatClampNeg) dX0_end_117 sA_30 vc.1 rfl ?_
    replace vc := vc.2
    refine QW.iload dX0_end_118 rfl ?_
    refine QW.iadd dX0_end_120 ?_
    refine FW.iast dX0_end_121 sA_30 vc.1 ?_
    replace vc := vc.2
    refine QW.iinc (a6 + (1 : Int32)) [some (.ref 26), some (.ref 1), none, some (.int a3), none, some (.int a5), some (.int (a6 + (1 : Int32)))] dX0_end_122 rfl rfl (by decide) rfl rfl ?_
    refine QW.goto 67 dX0_end_125 rfl ?_
    exact vc
theorem vX0_getUp_0 {g : QG} {K : Hp → Prop} {h : Hp} (vc : FV g mJ7_fill_53178 [.ref 28, .int (-1 : Int32)] (q_up (q_up h 26 1 (1 : Int32)) 26 3 (0 : Int32)) (fun h1 => FV g mJ7_fill_53178 [.ref 29, .int (-1 : Int32)] h1 (fun h2 => K h2))) : FW g mX0_getUp 0 [some (.ref 26)] [] h (q_RV K) := by
  refine QW.aload_n dX0_getUp_0 rfl ?_
  refine QW.iconst (1 : Int32) rfl dX0_getUp_1 ?_
  refine FW.putZ (Or.inr rfl) dX0_getUp_2 lfX0_9 sP_26_1 ?_
  refine QW.aload_n dX0_getUp_5 rfl ?_
  refine QW.iconst (0 : Int32) rfl dX0_getUp_6 ?_
  refine FW.putI dX0_getUp_7 lfX0_52 sP_26_3 ?_
  refine QW.aload_n dX0_getUp_10 rfl ?_
  refine FW.getR dX0_getUp_11 lfX0_19 sR_26_5 ?_
  refine QW.iconst (-1 : Int32) rfl dX0_getUp_14 ?_
  refine FW.callSv [.ref 28, .int (-1 : Int32)] [] rfl dX0_getUp_15 lmX0_28 rfl ⟨Nat.le_of_ble_eq_true rfl, Nat.le_of_ble_eq_true rfl⟩ ⟨rfl, rfl⟩ (Nat.le_of_ble_eq_true rfl) (FV.mono (fun h1 vc => ?_) vc)
  refine QW.aload_n dX0_getUp_18 rfl ?_
  refine FW.getR dX0_getUp_19 lfX0_22 sR_26_6 ?_
  refine QW.iconst (-1 : Int32) rfl dX0_getUp_22 ?_
  refine FW.callSv [.ref 29, .int (-1 : Int32)] [] rfl dX0_getUp_23 lmX0_28 rfl ⟨Nat.le_of_ble_eq_true rfl, Nat.le_of_ble_eq_true rfl⟩ ⟨rfl, rfl⟩ (Nat.le_of_ble_eq_true rfl) (FV.mono (fun h2 vc => ?_) vc)
  exact FW.retV dX0_getUp_26 rfl vc
theorem vX0_copyFrom_r36_26_0 {g : QG} {K : Hp → Prop} {h : Hp} (vc : q_bool (h 26 1) ∧ K (q_upA (q_upA (q_upA (q_upA (q_up (q_up (q_up h 36 0 (h 26 0)) 36 1 (h 26 1)) 36 3 (h 26 3)) 37 (va_cpy (h 27) (h 37) 0 0 6)) 38 (va_cpy (h 28) (h 38) 0 0 6)) 39 (va_cpy (h 29) (h 39) 0 0 12)) 40 (va_cpy (h 30) (h 40) 0 0 6))) : FW g mX0_copyFrom 0 [some (.ref 36), some (.ref 26)] [] h (q_RV K) := by
  refine QW.aload_n dX0_copyFrom_0 rfl ?_
  refine QW.aload_n dX0_copyFrom_1 rfl ?_
  refine FW.getI (h 26 0) dX0_copyFrom_2 lfX0_34 sI_26_0 rfl ?_
  refine FW.putI dX0_copyFrom_5 lfX0_34 sP_36_0 ?_
  refine QW.aload_n dX0_copyFrom_8 rfl ?_
  refine QW.aload_n dX0_copyFrom_9 rfl ?_
  refine FW.getI (h 26 1) dX0_copyFrom_10 lfX0_9 sI_26_1 rfl ?_
  refine FW.putZ vc.1 dX0_copyFrom_13 lfX0_9 sP_36_1 ?_
  replace vc := vc.2
  refine QW.aload_n dX0_copyFrom_16 rfl ?_
  refine QW.aload_n dX0_copyFrom_17 rfl ?_
  refine FW.getI (h 26 3) dX0_copyFrom_18 lfX0_52 sI_26_3 rfl ?_
  refine FW.putI dX0_copyFrom_21 lfX0_52 sP_36_3 ?_
  refine QW.aload_n dX0_copyFrom_24 rfl ?_
  refine FW.getR dX0_copyFrom_25 lfX0_15 sR_26_4 ?_
  refine QW.iconst (0 : Int32) rfl dX0_copyFrom_28 ?_
  refine QW.aload_n dX0_copyFrom_29 rfl ?_
  refine FW.getR dX0_copyFrom_30 lfX0_15 sR_36_4 ?_
  refine QW.iconst (0 : Int32) rfl dX0_copyFrom_33 ?_
  refine QW.bipush (6 : Int32) rfl dX0_copyFrom_34 ?_
  refine FW.copy dX0_copyFrom_36 lyX0_43 sA_27 sA_37 (by decide) (Nat.le_of_ble_eq_true rfl) (by decide) ?_
  refine QW.aload_n dX0_copyFrom_39 rfl ?_
  refine FW.getR dX0_copyFrom_40 lfX0_19 sR_26_5 ?_
  refine QW.iconst (0 : Int32) rfl dX0_copyFrom_43 ?_
  refine QW.aload_n dX0_copyFrom_44 rfl ?_
  refine FW.getR dX0_copyFrom_45 lfX0_19 sR_36_5 ?_
  refine QW.iconst (0 : Int32) rfl dX0_copyFrom_48 ?_
  refine QW.bipush (6 : Int32) rfl dX0_copyFrom_49 ?_
  refine FW.copy dX0_copyFrom_51 lyX0_43 sA_28 sA_38 (by decide) (Nat.le_of_ble_eq_true rfl) (by decide) ?_
  refine QW.aload_n dX0_copyFrom_54 rfl ?_
  refine FW.getR dX0_copyFrom_55 lfX0_22 sR_26_6 ?_
  refine QW.iconst (0 : Int32) rfl dX0_copyFrom_58 ?_
  refine QW.aload_n dX0_copyFrom_59 rfl ?_
  refine FW.getR dX0_copyFrom_60 lfX0_22 sR_36_6 ?_
  refine QW.iconst (0 : Int32) rfl dX0_copyFrom_63 ?_
  refine QW.bipush (12 : Int32) rfl dX0_copyFrom_64 ?_
  refine FW.copy dX0_copyFrom_66 lyX0_43 sA_29 sA_39 (by decide) (Nat.le_of_ble_eq_true rfl) (by decide) ?_
  refine QW.aload_n dX0_copyFrom_69 rfl ?_
  refine FW.getR dX0_copyFrom_70 lfX0_25 sR_26_7 ?_
  refine QW.iconst (0 : Int32) rfl dX0_copyFrom_73 ?_
  refine QW.aload_n dX0_copyFrom_74 rfl ?_
  refine FW.getR dX0_copyFrom_75 lfX0_25 sR_36_7 ?_
  refine QW.iconst (0 : Int32) rfl dX0_copyFrom_78 ?_
  refine QW.bipush (6 : Int32) rfl dX0_copyFrom_79 ?_
  refine FW.copy dX0_copyFrom_81 lyX0_43 sA_30 sA_40 (by decide) (Nat.le_of_ble_eq_true rfl) (by decide) ?_
  exact FW.retV dX0_copyFrom_84 rfl vc
theorem vX0_copyFrom_r31_26_0 {g : QG} {K : Hp → Prop} {h : Hp} (vc : q_bool (h 26 1) ∧ K (q_upA (q_upA (q_upA (q_upA (q_up (q_up (q_up h 31 0 (h 26 0)) 31 1 (h 26 1)) 31 3 (h 26 3)) 32 (va_cpy (h 27) (h 32) 0 0 6)) 33 (va_cpy (h 28) (h 33) 0 0 6)) 34 (va_cpy (h 29) (h 34) 0 0 12)) 35 (va_cpy (h 30) (h 35) 0 0 6))) : FW g mX0_copyFrom 0 [some (.ref 31), some (.ref 26)] [] h (q_RV K) := by
  refine QW.aload_n dX0_copyFrom_0 rfl ?_
  refine QW.aload_n dX0_copyFrom_1 rfl ?_
  refine FW.getI (h 26 0) dX0_copyFrom_2 lfX0_34 sI_26_0 rfl ?_
  refine FW.putI dX0_copyFrom_5 lfX0_34 sP_31_0 ?_
  refine QW.aload_n dX0_copyFrom_8 rfl ?_
  refine QW.aload_n dX0_copyFrom_9 rfl ?_
  refine FW.getI (h 26 1) dX0_copyFrom_10 lfX0_9 sI_26_1 rfl ?_
  refine FW.putZ vc.1 dX0_copyFrom_13 lfX0_9 sP_31_1 ?_
  replace vc := vc.2
  refine QW.aload_n dX0_copyFrom_16 rfl ?_
  refine QW.aload_n dX0_copyFrom_17 rfl ?_
  refine FW.getI (h 26 3) dX0_copyFrom_18 lfX0_52 sI_26_3 rfl ?_
  refine FW.putI dX0_copyFrom_21 lfX0_52 sP_31_3 ?_
  refine QW.aload_n dX0_copyFrom_24 rfl ?_
  refine FW.getR dX0_copyFrom_25 lfX0_15 sR_26_4 ?_
  refine QW.iconst (0 : Int32) rfl dX0_copyFrom_28 ?_
  refine QW.aload_n dX0_copyFrom_29 rfl ?_
  refine FW.getR dX0_copyFrom_30 lfX0_15 sR_31_4 ?_
  refine QW.iconst (0 : Int32) rfl dX0_copyFrom_33 ?_
  refine QW.bipush (6 : Int32) rfl dX0_copyFrom_34 ?_
  refine FW.copy dX0_copyFrom_36 lyX0_43 sA_27 sA_32 (by decide) (Nat.le_of_ble_eq_true rfl) (by decide) ?_
  refine QW.aload_n dX0_copyFrom_39 rfl ?_
  refine FW.getR dX0_copyFrom_40 lfX0_19 sR_26_5 ?_
  refine QW.iconst (0 : Int32) rfl dX0_copyFrom_43 ?_
  refine QW.aload_n dX0_copyFrom_44 rfl ?_
  refine FW.getR dX0_copyFrom_45 lfX0_19 sR_31_5 ?_
  refine QW.iconst (0 : Int32) rfl dX0_copyFrom_48 ?_
  refine QW.bipush (6 : Int32) rfl dX0_copyFrom_49 ?_
  refine FW.copy dX0_copyFrom_51 lyX0_43 sA_28 sA_33 (by decide) (Nat.le_of_ble_eq_true rfl) (by decide) ?_
  refine QW.aload_n dX0_copyFrom_54 rfl ?_
  refine FW.getR dX0_copyFrom_55 lfX0_22 sR_26_6 ?_
  refine QW.iconst (0 : Int32) rfl dX0_copyFrom_58 ?_
  refine QW.aload_n dX0_copyFrom_59 rfl ?_
  refine FW.getR dX0_copyFrom_60 lfX0_22 sR_31_6 ?_
  refine QW.iconst (0 : Int32) rfl dX0_copyFrom_63 ?_
  refine QW.bipush (12 : Int32) rfl dX0_copyFrom_64 ?_
  refine FW.copy dX0_copyFrom_66 lyX0_43 sA_29 sA_34 (by decide) (Nat.le_of_ble_eq_true rfl) (by decide) ?_
  refine QW.aload_n dX0_copyFrom_69 rfl ?_
  refine FW.getR dX0_copyFrom_70 lfX0_25 sR_26_7 ?_
  refine QW.iconst (0 : Int32) rfl dX0_copyFrom_73 ?_
  refine QW.aload_n dX0_copyFrom_74 rfl ?_
  refine FW.getR dX0_copyFrom_75 lfX0_25 sR_31_7 ?_
  refine QW.iconst (0 : Int32) rfl dX0_copyFrom_78 ?_
  refine QW.bipush (6 : Int32) rfl dX0_copyFrom_79 ?_
  refine FW.copy dX0_copyFrom_81 lyX0_43 sA_30 sA_35 (by decide) (Nat.le_of_ble_eq_true rfl) (by decide) ?_
  exact FW.retV dX0_copyFrom_84 rfl vc
theorem vX0_copyFrom_r26_36_0 {g : QG} {K : Hp → Prop} {h : Hp} (vc : q_bool (h 36 1) ∧ K (q_upA (q_upA (q_upA (q_upA (q_up (q_up (q_up h 26 0 (h 36 0)) 26 1 (h 36 1)) 26 3 (h 36 3)) 27 (va_cpy (h 37) (h 27) 0 0 6)) 28 (va_cpy (h 38) (h 28) 0 0 6)) 29 (va_cpy (h 39) (h 29) 0 0 12)) 30 (va_cpy (h 40) (h 30) 0 0 6))) : FW g mX0_copyFrom 0 [some (.ref 26), some (.ref 36)] [] h (q_RV K) := by
  refine QW.aload_n dX0_copyFrom_0 rfl ?_
  refine QW.aload_n dX0_copyFrom_1 rfl ?_
  refine FW.getI (h 36 0) dX0_copyFrom_2 lfX0_34 sI_36_0 rfl ?_
  refine FW.putI dX0_copyFrom_5 lfX0_34 sP_26_0 ?_
  refine QW.aload_n dX0_copyFrom_8 rfl ?_
  refine QW.aload_n dX0_copyFrom_9 rfl ?_
  refine FW.getI (h 36 1) dX0_copyFrom_10 lfX0_9 sI_36_1 rfl ?_
  refine FW.putZ vc.1 dX0_copyFrom_13 lfX0_9 sP_26_1 ?_
  replace vc := vc.2
  refine QW.aload_n dX0_copyFrom_16 rfl ?_
  refine QW.aload_n dX0_copyFrom_17 rfl ?_
  refine FW.getI (h 36 3) dX0_copyFrom_18 lfX0_52 sI_36_3 rfl ?_
  refine FW.putI dX0_copyFrom_21 lfX0_52 sP_26_3 ?_
  refine QW.aload_n dX0_copyFrom_24 rfl ?_
  refine FW.getR dX0_copyFrom_25 lfX0_15 sR_36_4 ?_
  refine QW.iconst (0 : Int32) rfl dX0_copyFrom_28 ?_
  refine QW.aload_n dX0_copyFrom_29 rfl ?_
  refine FW.getR dX0_copyFrom_30 lfX0_15 sR_26_4 ?_
  refine QW.iconst (0 : Int32) rfl dX0_copyFrom_33 ?_
  refine QW.bipush (6 : Int32) rfl dX0_copyFrom_34 ?_
  refine FW.copy dX0_copyFrom_36 lyX0_43 sA_37 sA_27 (by decide) (Nat.le_of_ble_eq_true rfl) (by decide) ?_
  refine QW.aload_n dX0_copyFrom_39 rfl ?_
  refine FW.getR dX0_copyFrom_40 lfX0_19 sR_36_5 ?_
  refine QW.iconst (0 : Int32) rfl dX0_copyFrom_43 ?_
  refine QW.aload_n dX0_copyFrom_44 rfl ?_
  refine FW.getR dX0_copyFrom_45 lfX0_19 sR_26_5 ?_
  refine QW.iconst (0 : Int32) rfl dX0_copyFrom_48 ?_
  refine QW.bipush (6 : Int32) rfl dX0_copyFrom_49 ?_
  refine FW.copy dX0_copyFrom_51 lyX0_43 sA_38 sA_28 (by decide) (Nat.le_of_ble_eq_true rfl) (by decide) ?_
  refine QW.aload_n dX0_copyFrom_54 rfl ?_
  refine FW.getR dX0_copyFrom_55 lfX0_22 sR_36_6 ?_
  refine QW.iconst (0 : Int32) rfl dX0_copyFrom_58 ?_
  refine QW.aload_n dX0_copyFrom_59 rfl ?_
  refine FW.getR dX0_copyFrom_60 lfX0_22 sR_26_6 ?_
  refine QW.iconst (0 : Int32) rfl dX0_copyFrom_63 ?_
  refine QW.bipush (12 : Int32) rfl dX0_copyFrom_64 ?_
  refine FW.copy dX0_copyFrom_66 lyX0_43 sA_39 sA_29 (by decide) (Nat.le_of_ble_eq_true rfl) (by decide) ?_
  refine QW.aload_n dX0_copyFrom_69 rfl ?_
  refine FW.getR dX0_copyFrom_70 lfX0_25 sR_36_7 ?_
  refine QW.iconst (0 : Int32) rfl dX0_copyFrom_73 ?_
  refine QW.aload_n dX0_copyFrom_74 rfl ?_
  refine FW.getR dX0_copyFrom_75 lfX0_25 sR_26_7 ?_
  refine QW.iconst (0 : Int32) rfl dX0_copyFrom_78 ?_
  refine QW.bipush (6 : Int32) rfl dX0_copyFrom_79 ?_
  refine FW.copy dX0_copyFrom_81 lyX0_43 sA_40 sA_30 (by decide) (Nat.le_of_ble_eq_true rfl) (by decide) ?_
  exact FW.retV dX0_copyFrom_84 rfl vc
theorem vX0_copyFrom_r26_31_0 {g : QG} {K : Hp → Prop} {h : Hp} (vc : q_bool (h 31 1) ∧ K (q_upA (q_upA (q_upA (q_upA (q_up (q_up (q_up h 26 0 (h 31 0)) 26 1 (h 31 1)) 26 3 (h 31 3)) 27 (va_cpy (h 32) (h 27) 0 0 6)) 28 (va_cpy (h 33) (h 28) 0 0 6)) 29 (va_cpy (h 34) (h 29) 0 0 12)) 30 (va_cpy (h 35) (h 30) 0 0 6))) : FW g mX0_copyFrom 0 [some (.ref 26), some (.ref 31)] [] h (q_RV K) := by
  refine QW.aload_n dX0_copyFrom_0 rfl ?_
  refine QW.aload_n dX0_copyFrom_1 rfl ?_
  refine FW.getI (h 31 0) dX0_copyFrom_2 lfX0_34 sI_31_0 rfl ?_
  refine FW.putI dX0_copyFrom_5 lfX0_34 sP_26_0 ?_
  refine QW.aload_n dX0_copyFrom_8 rfl ?_
  refine QW.aload_n dX0_copyFrom_9 rfl ?_
  refine FW.getI (h 31 1) dX0_copyFrom_10 lfX0_9 sI_31_1 rfl ?_
  refine FW.putZ vc.1 dX0_copyFrom_13 lfX0_9 sP_26_1 ?_
  replace vc := vc.2
  refine QW.aload_n dX0_copyFrom_16 rfl ?_
  refine QW.aload_n dX0_copyFrom_17 rfl ?_
  refine FW.getI (h 31 3) dX0_copyFrom_18 lfX0_52 sI_31_3 rfl ?_
  refine FW.putI dX0_copyFrom_21 lfX0_52 sP_26_3 ?_
  refine QW.aload_n dX0_copyFrom_24 rfl ?_
  refine FW.getR dX0_copyFrom_25 lfX0_15 sR_31_4 ?_
  refine QW.iconst (0 : Int32) rfl dX0_copyFrom_28 ?_
  refine QW.aload_n dX0_copyFrom_29 rfl ?_
  refine FW.getR dX0_copyFrom_30 lfX0_15 sR_26_4 ?_
  refine QW.iconst (0 : Int32) rfl dX0_copyFrom_33 ?_
  refine QW.bipush (6 : Int32) rfl dX0_copyFrom_34 ?_
  refine FW.copy dX0_copyFrom_36 lyX0_43 sA_32 sA_27 (by decide) (Nat.le_of_ble_eq_true rfl) (by decide) ?_
  refine QW.aload_n dX0_copyFrom_39 rfl ?_
  refine FW.getR dX0_copyFrom_40 lfX0_19 sR_31_5 ?_
  refine QW.iconst (0 : Int32) rfl dX0_copyFrom_43 ?_
  refine QW.aload_n dX0_copyFrom_44 rfl ?_
  refine FW.getR dX0_copyFrom_45 lfX0_19 sR_26_5 ?_
  refine QW.iconst (0 : Int32) rfl dX0_copyFrom_48 ?_
  refine QW.bipush (6 : Int32) rfl dX0_copyFrom_49 ?_
  refine FW.copy dX0_copyFrom_51 lyX0_43 sA_33 sA_28 (by decide) (Nat.le_of_ble_eq_true rfl) (by decide) ?_
  refine QW.aload_n dX0_copyFrom_54 rfl ?_
  refine FW.getR dX0_copyFrom_55 lfX0_22 sR_31_6 ?_
  refine QW.iconst (0 : Int32) rfl dX0_copyFrom_58 ?_
  refine QW.aload_n dX0_copyFrom_59 rfl ?_
  refine FW.getR dX0_copyFrom_60 lfX0_22 sR_26_6 ?_
  refine QW.iconst (0 : Int32) rfl dX0_copyFrom_63 ?_
  refine QW.bipush (12 : Int32) rfl dX0_copyFrom_64 ?_
  refine FW.copy dX0_copyFrom_66 lyX0_43 sA_34 sA_29 (by decide) (Nat.le_of_ble_eq_true rfl) (by decide) ?_
  refine QW.aload_n dX0_copyFrom_69 rfl ?_
  refine FW.getR dX0_copyFrom_70 lfX0_25 sR_31_7 ?_
  refine QW.iconst (0 : Int32) rfl dX0_copyFrom_73 ?_
  refine QW.aload_n dX0_copyFrom_74 rfl ?_
  refine FW.getR dX0_copyFrom_75 lfX0_25 sR_26_7 ?_
  refine QW.iconst (0 : Int32) rfl dX0_copyFrom_78 ?_
  refine QW.bipush (6 : Int32) rfl dX0_copyFrom_79 ?_
  refine FW.copy dX0_copyFrom_81 lyX0_43 sA_35 sA_30 (by decide) (Nat.le_of_ble_eq_true rfl) (by decide) ?_
  exact FW.retV dX0_copyFrom_84 rfl vc
theorem vX2_asTold_0 {g : QG} {K : Hp → Prop} {h : Hp} (vc : FI g mX6_everyone [.ref 1] (q_upA (q_upA h 21 (va_cpy (h 4) (h 21) 0 0 6)) 22 (va_cpy (h 5) (h 22) 0 0 6)) (fun x1 h1 => K (q_up (q_up h1 20 5 x1) 20 6 (h1 1 1)))) : FW g mX2_asTold 0 [some (.ref 20)] [] h (q_RV K) := by
  refine QW.aload_n dX2_asTold_0 rfl ?_
  refine FW.getR dX2_asTold_1 lfX2_21 sR_20_0 ?_
  refine FW.getR dX2_asTold_4 lfX2_29 sR_1_5 ?_
  refine QW.iconst (0 : Int32) rfl dX2_asTold_7 ?_
  refine QW.aload_n dX2_asTold_8 rfl ?_
  refine FW.getR dX2_asTold_9 lfX2_9 sR_20_2 ?_
  refine QW.iconst (0 : Int32) rfl dX2_asTold_12 ?_
  refine QW.bipush (6 : Int32) rfl dX2_asTold_13 ?_
  refine FW.copy dX2_asTold_15 lyX2_32 sA_4 sA_21 (by decide) (Nat.le_of_ble_eq_true rfl) (by decide) ?_
  refine QW.aload_n dX2_asTold_18 rfl ?_
  refine FW.getR dX2_asTold_19 lfX2_21 sR_20_0 ?_
  refine FW.getR dX2_asTold_22 lfX2_38 sR_1_6 ?_
  refine QW.iconst (0 : Int32) rfl dX2_asTold_25 ?_
  refine QW.aload_n dX2_asTold_26 rfl ?_
  refine FW.getR dX2_asTold_27 lfX2_15 sR_20_3 ?_
  refine QW.iconst (0 : Int32) rfl dX2_asTold_30 ?_
  refine QW.bipush (6 : Int32) rfl dX2_asTold_31 ?_
  refine FW.copy dX2_asTold_33 lyX2_32 sA_5 sA_22 (by decide) (Nat.le_of_ble_eq_true rfl) (by decide) ?_
  refine QW.aload_n dX2_asTold_36 rfl ?_
  refine QW.aload_n dX2_asTold_37 rfl ?_
  refine FW.getR dX2_asTold_38 lfX2_21 sR_20_0 ?_
  refine FW.callVi [] [.ref 20] rfl dX2_asTold_41 lmX2_39 sC_1 rfl ⟨Nat.le_of_ble_eq_true rfl, Nat.le_of_ble_eq_true rfl⟩ ⟨rfl, rfl⟩ (Nat.le_of_ble_eq_true rfl) (FI.mono (fun x1 h1 vc => ?_) vc)
  refine FW.putI dX2_asTold_44 lfX2_43 sP_20_5 ?_
  refine QW.aload_n dX2_asTold_47 rfl ?_
  refine QW.aload_n dX2_asTold_48 rfl ?_
  refine FW.getR dX2_asTold_49 lfX2_21 sR_20_0 ?_
  refine FW.getI (h1 1 1) dX2_asTold_52 lfX2_47 sI_1_1 rfl ?_
  refine FW.putI dX2_asTold_55 lfX2_50 sP_20_6 ?_
  exact FW.retV dX2_asTold_58 rfl vc
theorem vX8_isTime_0 {g : QG} {K : Int32 → Hp → Prop} {h : Hp} {a0 : Int32} (vc : FI g mX8_in [.long a0.toInt64, .long (0 : Int64), .long (99 : Int64)] h (fun x1 h1 => q_bool x1 ∧ K x1 h1)) : FW g mX8_isTime 0 [some (.int a0)] [] h (q_RI K) := by
  refine QW.iload_n dX8_isTime_0 rfl ?_
  refine QW.i2l dX8_isTime_1 ?_
  refine QW.lconst (0 : Int64) rfl dX8_isTime_2 ?_
  refine QW.ldc2 dX8_isTime_3 lkX8_207 ?_
  refine FW.callSi [.long a0.toInt64, .long (0 : Int64), .long (99 : Int64)] [] rfl dX8_isTime_6 lmX8_70 rfl ⟨Nat.le_of_ble_eq_true rfl, Nat.le_of_ble_eq_true rfl⟩ ⟨rfl, rfl⟩ (Nat.le_of_ble_eq_true rfl) (FI.mono (fun x1 h1 vc => ?_) vc)
  exact FW.retZ vc.1 dX8_isTime_9 rfl vc.2
theorem vX7_areMinutes_0 {g : QG} {K : Int32 → Hp → Prop} {h : Hp} {a0 a1 : Int32} (vc : FI g mX7_isMinute [.int a0] h (fun x1 h1 => (x1 = 0 → K (0 : Int32) h1) ∧ (¬ x1 = 0 → FI g mX7_isMinute [.int a1] h1 (fun x2 h2 => (x2 = 0 → K (0 : Int32) h2) ∧ (¬ x2 = 0 → (a1 < a0 → K (0 : Int32) h2) ∧ (¬ a1 < a0 → K (1 : Int32) h2)))))) : FW g mX7_areMinutes 0 [some (.int a0), some (.int a1)] [] h (q_RI K) := by
  refine QW.iload_n dX7_areMinutes_0 rfl ?_
  refine FW.callSi [.int a0] [] rfl dX7_areMinutes_1 lmX7_199 rfl ⟨Nat.le_of_ble_eq_true rfl, Nat.le_of_ble_eq_true rfl⟩ ⟨rfl, rfl⟩ (Nat.le_of_ble_eq_true rfl) (FI.mono (fun x1 h1 vc => ?_) vc)
  refine QW.if_eq 23 dX7_areMinutes_4 rfl (fun hc => ?_) (fun hc => ?_)
  · replace vc := vc.1 hc
    refine QW.iconst (0 : Int32) rfl dX7_areMinutes_23 ?_
    exact FW.retZ (Or.inl rfl) dX7_areMinutes_24 rfl vc
  · replace vc := vc.2 hc
    refine QW.iload_n dX7_areMinutes_7 rfl ?_
    refine FW.callSi [.int a1] [] rfl dX7_areMinutes_8 lmX7_199 rfl ⟨Nat.le_of_ble_eq_true rfl, Nat.le_of_ble_eq_true rfl⟩ ⟨rfl, rfl⟩ (Nat.le_of_ble_eq_true rfl) (FI.mono (fun x2 h2 vc => ?_) vc)
    refine QW.if_eq 23 dX7_areMinutes_11 rfl (fun hc => ?_) (fun hc => ?_)
    · replace vc := vc.1 hc
      refine QW.iconst (0 : Int32) rfl dX7_areMinutes_23 ?_
      exact FW.retZ (Or.inl rfl) dX7_areMinutes_24 rfl vc
    · replace vc := vc.2 hc
      refine QW.iload_n dX7_areMinutes_14 rfl ?_
      refine QW.iload_n dX7_areMinutes_15 rfl ?_
      refine QW.icmp_gt 23 dX7_areMinutes_16 rfl (fun hc => ?_) (fun hc => ?_)
      · replace vc := vc.1 hc
        refine QW.iconst (0 : Int32) rfl dX7_areMinutes_23 ?_
        exact FW.retZ (Or.inl rfl) dX7_areMinutes_24 rfl vc
      · replace vc := vc.2 hc
        refine QW.iconst (1 : Int32) rfl dX7_areMinutes_19 ?_
        refine QW.goto 24 dX7_areMinutes_20 rfl ?_
        exact FW.retZ (Or.inr rfl) dX7_areMinutes_24 rfl vc
theorem vX6_hasAll_0 {g : QG} {K : Int32 → Hp → Prop} {h : Hp} {a1 : Int32} (vc : FI g mX6_everyone [.ref 1] h (fun x1 h1 => (¬ (a1 &&& (x1 ^^^ (-1 : Int32))) = 0 → K (0 : Int32) h1) ∧ ((a1 &&& (x1 ^^^ (-1 : Int32))) = 0 → K (1 : Int32) h1))) : FW g mX6_hasAll 0 [some (.ref 1), some (.int a1)] [] h (q_RI K) := by
  refine QW.iload_n dX6_hasAll_0 rfl ?_
  refine QW.aload_n dX6_hasAll_1 rfl ?_
  refine FW.callVi [] [.int a1] rfl dX6_hasAll_2 lmX6_51 sC_1 rfl ⟨Nat.le_of_ble_eq_true rfl, Nat.le_of_ble_eq_true rfl⟩ ⟨rfl, rfl⟩ (Nat.le_of_ble_eq_true rfl) (FI.mono (fun x1 h1 vc => ?_) vc)
  refine QW.iconst (-1 : Int32) rfl dX6_hasAll_5 ?_
  refine QW.ixor dX6_hasAll_6 ?_
  refine QW.iand dX6_hasAll_7 ?_
  refine QW.if_ne 15 dX6_hasAll_8 rfl (fun hc => ?_) (fun hc => ?_)
  · replace vc := vc.1 hc
    refine QW.iconst (0 : Int32) rfl dX6_hasAll_15 ?_
    exact FW.retZ (Or.inl rfl) dX6_hasAll_16 rfl vc
  · replace vc := vc.2 hc
    refine QW.iconst (1 : Int32) rfl dX6_hasAll_11 ?_
    refine QW.goto 16 dX6_hasAll_12 rfl ?_
    exact FW.retZ (Or.inr rfl) dX6_hasAll_16 rfl vc
theorem vX6_greatestWorth_0 {g : QG} {K : Int32 → Hp → Prop} {h : Hp} {a1 : Int32} (vc : FW g mX6_greatestWorth 4 [some (.ref 1), some (.int a1), some (.int (0 : Int32)), some (.int (0 : Int32))] [] h (q_RI K)) : FW g mX6_greatestWorth 0 [some (.ref 1), some (.int a1), none, none] [] h (q_RI K) := by
  refine QW.iconst (0 : Int32) rfl dX6_greatestWorth_0 ?_
  refine QW.istore_n [some (.ref 1), some (.int a1), some (.int (0 : Int32)), none] dX6_greatestWorth_1 (by decide) rfl rfl ?_
  refine QW.iconst (0 : Int32) rfl dX6_greatestWorth_2 ?_
  refine QW.istore_n [some (.ref 1), some (.int a1), some (.int (0 : Int32)), some (.int (0 : Int32))] dX6_greatestWorth_3 (by decide) rfl rfl ?_
  exact vc
theorem vX6_greatestWorth_4 {g : QG} {K : Int32 → Hp → Prop} {h : Hp} {a1 a2 a3 : Int32} (vc : ((h 1 2) ≤ a3 → K a2 h) ∧ (¬ (h 1 2) ≤ a3 → FI g mX7_holds [.int a1, .int a3] h (fun x1 h1 => (x1 = 0 → FW g mX6_greatestWorth 4 [some (.ref 1), some (.int a1), some (.int a2), some (.int (a3 + (1 : Int32)))] [] h1 (q_RI K)) ∧ (¬ x1 = 0 → vp_in a3 6 ∧ FI g mJ9_max_7cf53 [.int a2, .int (h1 6 a3.toNatClampNeg)] h1 (fun x2 h2 => FW g mX6_greatestWorth 4 [some (.ref 1), some (.int a1), some (.int x2), some (.int (a3 + (1 : Int32)))] [] h2 (q_RI K)))))) : FW g mX6_greatestWorth 4 [some (.ref 1), some (.int a1), some (.int a2), some (.int a3)] [] h (q_RI K) := by
  refine QW.iload_n dX6_greatestWorth_4 rfl ?_
  refine QW.aload_n dX6_greatestWorth_5 rfl ?_
  refine FW.getI (h 1 2) dX6_greatestWorth_6 lfX6_34 sI_1_2 rfl ?_
  refine QW.icmp_ge 37 dX6_greatestWorth_9 rfl (fun hc => ?_) (fun hc => ?_)
  · replace vc := vc.1 hc
    refine QW.iload_n dX6_greatestWorth_37 rfl ?_
    exact FW.ret dX6_greatestWorth_38 rfl vc
  · replace vc := vc.2 hc
    refine QW.iload_n dX6_greatestWorth_12 rfl ?_
    refine QW.iload_n dX6_greatestWorth_13 rfl ?_
    refine FW.callNi [.int a1, .int a3] [] rfl dX6_greatestWorth_14 lmX6_47 rfl ⟨Nat.le_of_ble_eq_true rfl, Nat.le_of_ble_eq_true rfl⟩ ⟨rfl, rfl⟩ (Nat.le_of_ble_eq_true rfl) (FI.mono (fun x1 h1 vc => ?_) vc)
    refine QW.if_eq 31 dX6_greatestWorth_17 rfl (fun hc => ?_) (fun hc => ?_)
    · replace vc := vc.1 hc
      refine QW.iinc (a3 + (1 : Int32)) [some (.ref 1), some (.int a1), some (.int a2), some (.int (a3 + (1 : Int32)))] dX6_greatestWorth_31 rfl rfl (by decide) rfl rfl ?_
      refine QW.goto 4 dX6_greatestWorth_34 rfl ?_
      exact vc
    · replace vc := vc.2 hc
      refine QW.iload_n dX6_greatestWorth_20 rfl ?_
      refine QW.aload_n dX6_greatestWorth_21 rfl ?_
      refine FW.getR dX6_greatestWorth_22 lfX6_28 sR_1_7 ?_
      refine QW.iload_n dX6_greatestWorth_25 rfl ?_
      refine FW.iald (h1 6 a3.toNatClampNeg) dX6_greatestWorth_26 sA_6 vc.1 rfl ?_
      replace vc := vc.2
      refine FW.callSi [.int a2, .int (h1 6 a3.toNatClampNeg)] [] rfl dX6_greatestWorth_27 lmX6_68 rfl ⟨Nat.le_of_ble_eq_true rfl, Nat.le_of_ble_eq_true rfl⟩ ⟨rfl, rfl⟩ (Nat.le_of_ble_eq_true rfl) (FI.mono (fun x2 h2 vc => ?_) vc)
      refine QW.istore_n [some (.ref 1), some (.int a1), some (.int x2), some (.int a3)] dX6_greatestWorth_30 (by decide) rfl rfl ?_
      refine QW.iinc (a3 + (1 : Int32)) [some (.ref 1), some (.int a1), some (.int x2), some (.int (a3 + (1 : Int32)))] dX6_greatestWorth_31 rfl rfl (by decide) rfl rfl ?_
      refine QW.goto 4 dX6_greatestWorth_34 rfl ?_
      exact vc
theorem vX8_layAts_0 {g : QG} {K : Hp → Prop} {h : Hp} {a1 : Int32} (vc : FW g mX8_layAts 2 [some (.ref 44), some (.int a1), some (.int (0 : Int32))] [] h (q_RV K)) : FW g mX8_layAts 0 [some (.ref 44), some (.int a1), none] [] h (q_RV K) := by
  refine QW.iconst (0 : Int32) rfl dX8_layAts_0 ?_
  refine QW.istore_n [some (.ref 44), some (.int a1), some (.int (0 : Int32))] dX8_layAts_1 (by decide) rfl rfl ?_
  exact vc
theorem vX8_layAts_2 {g : QG} {K : Hp → Prop} {h : Hp} {a1 a2 : Int32} (vc : ((h 44 13) ≤ a2 → K h) ∧ (¬ (h 44 13) ≤ a2 → vp_in a2 6 ∧ vp_in a2 6 ∧ vp_in a2 6 ∧ FI g mX8_walked [.ref 44, .int (h 50 a2.toNatClampNeg), .int (h 51 a2.toNatClampNeg), .int (h 52 a2.toNatClampNeg), .int a1] h (fun x1 h1 => vp_in a2 6 ∧ FW g mX8_layAts 2 [some (.ref 44), some (.int a1), some (.int (a2 + (1 : Int32)))] [] (q_up h1 54 a2.toNatClampNeg x1) (q_RV K)))) : FW g mX8_layAts 2 [some (.ref 44), some (.int a1), some (.int a2)] [] h (q_RV K) := by
  refine QW.iload_n dX8_layAts_2 rfl ?_
  refine QW.aload_n dX8_layAts_3 rfl ?_
  refine FW.getI (h 44 13) dX8_layAts_4 lfX8_74 sI_44_13 rfl ?_
  refine QW.icmp_ge 45 dX8_layAts_7 rfl (fun hc => ?_) (fun hc => ?_)
  · replace vc := vc.1 hc
    exact FW.retV dX8_layAts_45 rfl vc
  · replace vc := vc.2 hc
    refine QW.aload_n dX8_layAts_10 rfl ?_
    refine FW.getR dX8_layAts_11 lfX8_42 sR_44_20 ?_
    refine QW.iload_n dX8_layAts_14 rfl ?_
    refine QW.aload_n dX8_layAts_15 rfl ?_
    refine QW.aload_n dX8_layAts_16 rfl ?_
    refine FW.getR dX8_layAts_17 lfX8_30 sR_44_9 ?_
    refine QW.iload_n dX8_layAts_20 rfl ?_
    refine FW.iald (h 50 a2.toNatClampNeg) dX8_layAts_21 sA_50 vc.1 rfl ?_
    replace vc := vc.2
    refine QW.aload_n dX8_layAts_22 rfl ?_
    refine FW.getR dX8_layAts_23 lfX8_33 sR_44_10 ?_
    refine QW.iload_n dX8_layAts_26 rfl ?_
    refine FW.iald (h 51 a2.toNatClampNeg) dX8_layAts_27 sA_51 vc.1 rfl ?_
    replace vc := vc.2
    refine QW.aload_n dX8_layAts_28 rfl ?_
    refine FW.getR dX8_layAts_29 lfX8_36 sR_44_11 ?_
    refine QW.iload_n dX8_layAts_32 rfl ?_
    refine FW.iald (h 52 a2.toNatClampNeg) dX8_layAts_33 sA_52 vc.1 rfl ?_
    replace vc := vc.2
    refine QW.iload_n dX8_layAts_34 rfl ?_
    refine FW.callVi [.int (h 50 a2.toNatClampNeg), .int (h 51 a2.toNatClampNeg), .int (h 52 a2.toNatClampNeg), .int a1] [.int a2, .ref 54] rfl dX8_layAts_35 lmX8_209 sC_44 rfl ⟨Nat.le_of_ble_eq_true rfl, Nat.le_of_ble_eq_true rfl⟩ ⟨rfl, rfl⟩ (Nat.le_of_ble_eq_true rfl) (FI.mono (fun x1 h1 vc => ?_) vc)
    refine FW.iast dX8_layAts_38 sA_54 vc.1 ?_
    replace vc := vc.2
    refine QW.iinc (a2 + (1 : Int32)) [some (.ref 44), some (.int a1), some (.int (a2 + (1 : Int32)))] dX8_layAts_39 rfl rfl (by decide) rfl rfl ?_
    refine QW.goto 2 dX8_layAts_42 rfl ?_
    exact vc
