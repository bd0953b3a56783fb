theorem vX7_erase_0 {g : QG} {K : Int32 → Hp → Prop} {h : Hp} (vc : K (h 7 1) (q_up h 7 1 (0 : Int32))) : FW g mX7_erase 0 [some (.ref 0), none] [] h (q_RI K) := by
  refine QW.aload_n dX7_erase_0 rfl ?_
  refine FW.getR dX7_erase_1 lfX7_19 sR_0_1 ?_
  refine FW.getI (h 7 1) dX7_erase_4 lfX7_70 sI_7_1 rfl ?_
  refine QW.istore_n [some (.ref 0), some (.int (h 7 1))] dX7_erase_7 (by decide) rfl rfl ?_
  refine QW.aload_n dX7_erase_8 rfl ?_
  refine FW.getR dX7_erase_9 lfX7_19 sR_0_1 ?_
  refine QW.iconst (0 : Int32) rfl dX7_erase_12 ?_
  refine FW.putI dX7_erase_13 lfX7_70 sP_7_1 ?_
  refine QW.iload_n dX7_erase_16 rfl ?_
  exact FW.ret dX7_erase_17 rfl vc
theorem vX8_erase_0 {g : QG} {K : Int32 → Hp → Prop} {h : Hp} (vc : K (h 44 3) (q_up h 44 3 (0 : Int32))) : FW g mX8_erase 0 [some (.ref 44), none] [] h (q_RI K) := by
  refine QW.aload_n dX8_erase_0 rfl ?_
  refine FW.getI (h 44 3) dX8_erase_1 lfX8_79 sI_44_3 rfl ?_
  refine QW.istore_n [some (.ref 44), some (.int (h 44 3))] dX8_erase_4 (by decide) rfl rfl ?_
  refine QW.aload_n dX8_erase_5 rfl ?_
  refine QW.iconst (0 : Int32) rfl dX8_erase_6 ?_
  refine FW.putI dX8_erase_7 lfX8_79 sP_44_3 ?_
  refine QW.iload_n dX8_erase_10 rfl ?_
  exact FW.ret dX8_erase_11 rfl vc
theorem vX8_play_0 {g : QG} {K : Int32 → Hp → Prop} {h : Hp} (vc : (¬ (h 45 1) = 0 → FW g mX8_play 14 [some (.ref 44), some (.int (0 : Int32))] [] h (q_RI K)) ∧ ((h 45 1) = 0 → K (-4 : Int32) h)) : FW g mX8_play 0 [some (.ref 44), none] [] h (q_RI K) := by
  refine QW.aload_n dX8_play_0 rfl ?_
  refine FW.getR dX8_play_1 lfX8_7 sR_44_0 ?_
  refine QW.iconst (1 : Int32) rfl dX8_play_4 ?_
  refine FW.iald (h 45 1) dX8_play_5 sA_45 (by unfold vp_in; decide) rfl ?_
  refine QW.if_ne 12 dX8_play_6 rfl (fun hc => ?_) (fun hc => ?_)
  · replace vc := vc.1 hc
    refine QW.iconst (0 : Int32) rfl dX8_play_12 ?_
    refine QW.istore_n [some (.ref 44), some (.int (0 : Int32))] dX8_play_13 (by decide) rfl rfl ?_
    exact vc
  · replace vc := vc.2 hc
    refine QW.bipush (-4 : Int32) rfl dX8_play_9 ?_
    exact FW.ret dX8_play_11 rfl vc
theorem vX8_play_14 {g : QG} {K : Int32 → Hp → Prop} {h : Hp} {a1 : Int32} (vc : ((6 : Int32) ≤ a1 → K (h 45 0) (q_up (q_up h 45 1 (0 : Int32)) 45 2 (0 : Int32))) ∧ (¬ (6 : Int32) ≤ a1 → vp_in ((9 : Int32) + a1) 81 ∧ vp_in ((15 : Int32) + a1) 81 ∧ FW g mX8_play 14 [some (.ref 44), some (.int (a1 + (1 : Int32)))] [] (q_up (q_up h 45 (((9 : Int32) + a1).toNatClampNeg) (-1 : Int32)) 45 (((15 : Int32) + a1).toNatClampNeg) (-1 : Int32)) (q_RI K))) : FW g mX8_play 14 [some (.ref 44), some (.int a1)] [] h (q_RI K) := by
  refine QW.iload_n dX8_play_14 rfl ?_
  refine QW.bipush (6 : Int32) rfl dX8_play_15 ?_
  refine QW.icmp_ge 46 dX8_play_17 rfl (fun hc => ?_) (fun hc => ?_)
  · replace vc := vc.1 hc
    refine QW.aload_n dX8_play_46 rfl ?_
    refine FW.getR dX8_play_47 lfX8_7 sR_44_0 ?_
    refine QW.iconst (1 : Int32) rfl dX8_play_50 ?_
    refine QW.iconst (0 : Int32) rfl dX8_play_51 ?_
    refine FW.iast dX8_play_52 sA_45 (by unfold vp_in; decide) ?_
    refine QW.aload_n dX8_play_53 rfl ?_
    refine FW.getR dX8_play_54 lfX8_7 sR_44_0 ?_
    refine QW.iconst (2 : Int32) rfl dX8_play_57 ?_
    refine QW.iconst (0 : Int32) rfl dX8_play_58 ?_
    refine FW.iast dX8_play_59 sA_45 (by unfold vp_in; decide) ?_
    refine QW.aload_n dX8_play_60 rfl ?_
    refine FW.getR dX8_play_61 lfX8_7 sR_44_0 ?_
    refine QW.iconst (0 : Int32) rfl dX8_play_64 ?_
    refine FW.iald (h 45 0) dX8_play_65 sA_45 (by unfold vp_in; decide) rfl ?_
    exact FW.ret dX8_play_66 rfl vc
  · replace vc := vc.2 hc
    refine QW.aload_n dX8_play_20 rfl ?_
    refine FW.getR dX8_play_21 lfX8_7 sR_44_0 ?_
    refine QW.bipush (9 : Int32) rfl dX8_play_24 ?_
    refine QW.iload_n dX8_play_26 rfl ?_
    refine QW.iadd dX8_play_27 ?_
    refine QW.iconst (-1 : Int32) rfl dX8_play_28 ?_
    refine FW.iast dX8_play_29 sA_45 vc.1 ?_
    replace vc := vc.2
    refine QW.aload_n dX8_play_30 rfl ?_
    refine FW.getR dX8_play_31 lfX8_7 sR_44_0 ?_
    refine QW.bipush (15 : Int32) rfl dX8_play_34 ?_
    refine QW.iload_n dX8_play_36 rfl ?_
    refine QW.iadd dX8_play_37 ?_
    refine QW.iconst (-1 : Int32) rfl dX8_play_38 ?_
    refine FW.iast dX8_play_39 sA_45 vc.1 ?_
    replace vc := vc.2
    refine QW.iinc (a1 + (1 : Int32)) [some (.ref 44), some (.int (a1 + (1 : Int32)))] dX8_play_40 rfl rfl (by decide) rfl rfl ?_
    refine QW.goto 14 dX8_play_43 rfl ?_
    exact vc
theorem vX7_forget_0 {g : QG} {K : Int32 → Hp → Prop} {h : Hp} (vc : K (h 41 0) (q_up h 41 0 (0 : Int32))) : FW g mX7_forget 0 [some (.ref 0), none] [] h (q_RI K) := by
  refine QW.aload_n dX7_forget_0 rfl ?_
  refine FW.getR dX7_forget_1 lfX7_66 sR_0_8 ?_
  refine FW.getI (h 41 0) dX7_forget_4 lfX7_97 sI_41_0 rfl ?_
  refine QW.istore_n [some (.ref 0), some (.int (h 41 0))] dX7_forget_7 (by decide) rfl rfl ?_
  refine QW.aload_n dX7_forget_8 rfl ?_
  refine FW.getR dX7_forget_9 lfX7_66 sR_0_8 ?_
  refine QW.iconst (0 : Int32) rfl dX7_forget_12 ?_
  refine FW.putI dX7_forget_13 lfX7_97 sP_41_0 ?_
  refine QW.iload_n dX7_forget_16 rfl ?_
  exact FW.ret dX7_forget_17 rfl vc
theorem vX8_forget_0 {g : QG} {K : Int32 → Hp → Prop} {h : Hp} (vc : K (h 44 30) (q_up h 44 30 (0 : Int32))) : FW g mX8_forget 0 [some (.ref 44), none] [] h (q_RI K) := by
  refine QW.aload_n dX8_forget_0 rfl ?_
  refine FW.getI (h 44 30) dX8_forget_1 lfX8_167 sI_44_30 rfl ?_
  refine QW.istore_n [some (.ref 44), some (.int (h 44 30))] dX8_forget_4 (by decide) rfl rfl ?_
  refine QW.aload_n dX8_forget_5 rfl ?_
  refine QW.iconst (0 : Int32) rfl dX8_forget_6 ?_
  refine FW.putI dX8_forget_7 lfX8_167 sP_44_30 ?_
  refine QW.iload_n dX8_forget_10 rfl ?_
  exact FW.ret dX8_forget_11 rfl vc
theorem vX7_count_0 {g : QG} {K : Int32 → Hp → Prop} {h : Hp} {a1 : Int32} (vc : (a1 = (0 : Int32) → K (h 1 0) h) ∧ (¬ a1 = (0 : Int32) → (a1 = (1 : Int32) → K (h 1 2) h) ∧ (¬ a1 = (1 : Int32) → (a1 = (2 : Int32) → K (h 1 1) h) ∧ (¬ a1 = (2 : Int32) → (a1 = (3 : Int32) → K (h 26 0) h) ∧ (¬ a1 = (3 : Int32) → (a1 = (4 : Int32) → ((h 26 1) = 0 → K (0 : Int32) h) ∧ (¬ (h 26 1) = 0 → K (1 : Int32) h)) ∧ (¬ a1 = (4 : Int32) → (a1 = (5 : Int32) → K (h 26 3) h) ∧ (¬ a1 = (5 : Int32) → (a1 = (6 : Int32) → K (h 41 0) h) ∧ (¬ a1 = (6 : Int32) → (a1 = (7 : Int32) → K (h 7 1) h) ∧ (¬ a1 = (7 : Int32) → K (-3 : Int32) h))))))))) : FW g mX7_count 0 [some (.ref 0), some (.int a1)] [] h (q_RI K) := by
  refine QW.iload_n dX7_count_0 rfl ?_
  by_cases c0 : a1 = (0 : Int32)
  · replace vc := vc.1 c0
    refine QW.tabIn 48 dX7_count_1 (by rw [c0]; decide) (by rw [c0]; decide) (by rw [c0]; rfl) rfl ?_
    refine QW.aload_n dX7_count_48 rfl ?_
    refine FW.getR dX7_count_49 lfX7_10 sR_0_0 ?_
    refine FW.getI (h 1 0) dX7_count_52 lfX7_255 sI_1_0 rfl ?_
    exact FW.ret dX7_count_55 rfl vc
  · replace vc := vc.2 c0
    by_cases c1 : a1 = (1 : Int32)
    · replace vc := vc.1 c1
      refine QW.tabIn 56 dX7_count_1 (by rw [c1]; decide) (by rw [c1]; decide) (by rw [c1]; rfl) rfl ?_
      refine QW.aload_n dX7_count_56 rfl ?_
      refine FW.getR dX7_count_57 lfX7_10 sR_0_0 ?_
      refine FW.getI (h 1 2) dX7_count_60 lfX7_114 sI_1_2 rfl ?_
      exact FW.ret dX7_count_63 rfl vc
    · replace vc := vc.2 c1
      by_cases c2 : a1 = (2 : Int32)
      · replace vc := vc.1 c2
        refine QW.tabIn 64 dX7_count_1 (by rw [c2]; decide) (by rw [c2]; decide) (by rw [c2]; rfl) rfl ?_
        refine QW.aload_n dX7_count_64 rfl ?_
        refine FW.getR dX7_count_65 lfX7_10 sR_0_0 ?_
        refine FW.getI (h 1 1) dX7_count_68 lfX7_177 sI_1_1 rfl ?_
        exact FW.ret dX7_count_71 rfl vc
      · replace vc := vc.2 c2
        by_cases c3 : a1 = (3 : Int32)
        · replace vc := vc.1 c3
          refine QW.tabIn 72 dX7_count_1 (by rw [c3]; decide) (by rw [c3]; decide) (by rw [c3]; rfl) rfl ?_
          refine QW.aload_n dX7_count_72 rfl ?_
          refine FW.getR dX7_count_73 lfX7_53 sR_0_5 ?_
          refine FW.getI (h 26 0) dX7_count_76 lfX7_159 sI_26_0 rfl ?_
          exact FW.ret dX7_count_79 rfl vc
        · replace vc := vc.2 c3
          by_cases c4 : a1 = (4 : Int32)
          · replace vc := vc.1 c4
            refine QW.tabIn 80 dX7_count_1 (by rw [c4]; decide) (by rw [c4]; decide) (by rw [c4]; rfl) rfl ?_
            refine QW.aload_n dX7_count_80 rfl ?_
            refine FW.getR dX7_count_81 lfX7_53 sR_0_5 ?_
            refine FW.getI (h 26 1) dX7_count_84 lfX7_156 sI_26_1 rfl ?_
            refine QW.if_eq 94 dX7_count_87 rfl (fun hc => ?_) (fun hc => ?_)
            · replace vc := vc.1 hc
              refine QW.iconst (0 : Int32) rfl dX7_count_94 ?_
              exact FW.ret dX7_count_95 rfl vc
            · replace vc := vc.2 hc
              refine QW.iconst (1 : Int32) rfl dX7_count_90 ?_
              refine QW.goto 95 dX7_count_91 rfl ?_
              exact FW.ret dX7_count_95 rfl vc
          · replace vc := vc.2 c4
            by_cases c5 : a1 = (5 : Int32)
            · replace vc := vc.1 c5
              refine QW.tabIn 96 dX7_count_1 (by rw [c5]; decide) (by rw [c5]; decide) (by rw [c5]; rfl) rfl ?_
              refine QW.aload_n dX7_count_96 rfl ?_
              refine FW.getR dX7_count_97 lfX7_53 sR_0_5 ?_
              refine FW.getI (h 26 3) dX7_count_100 lfX7_274 sI_26_3 rfl ?_
              exact FW.ret dX7_count_103 rfl vc
            · replace vc := vc.2 c5
              by_cases c6 : a1 = (6 : Int32)
              · replace vc := vc.1 c6
                refine QW.tabIn 104 dX7_count_1 (by rw [c6]; decide) (by rw [c6]; decide) (by rw [c6]; rfl) rfl ?_
                refine QW.aload_n dX7_count_104 rfl ?_
                refine FW.getR dX7_count_105 lfX7_66 sR_0_8 ?_
                refine FW.getI (h 41 0) dX7_count_108 lfX7_97 sI_41_0 rfl ?_
                exact FW.ret dX7_count_111 rfl vc
              · replace vc := vc.2 c6
                by_cases c7 : a1 = (7 : Int32)
                · replace vc := vc.1 c7
                  refine QW.tabIn 112 dX7_count_1 (by rw [c7]; decide) (by rw [c7]; decide) (by rw [c7]; rfl) rfl ?_
                  refine QW.aload_n dX7_count_112 rfl ?_
                  refine FW.getR dX7_count_113 lfX7_19 sR_0_1 ?_
                  refine FW.getI (h 7 1) dX7_count_116 lfX7_70 sI_7_1 rfl ?_
                  exact FW.ret dX7_count_119 rfl vc
                · replace vc := vc.2 c7
                  refine QW.tabOut 120 dX7_count_1 (by have n0 := lv_neT c0 (a := 0) (by decide); have n1 := lv_neT c1 (a := 1) (by decide); have n2 := lv_neT c2 (a := 2) (by decide); have n3 := lv_neT c3 (a := 3) (by decide); have n4 := lv_neT c4 (a := 4) (by decide); have n5 := lv_neT c5 (a := 5) (by decide); have n6 := lv_neT c6 (a := 6) (by decide); have n7 := lv_neT c7 (a := 7) (by decide); omega) rfl ?_
                  refine QW.bipush (-3 : Int32) rfl dX7_count_120 ?_
                  exact FW.ret dX7_count_122 rfl vc
theorem vX8_count_0 {g : QG} {K : Int32 → Hp → Prop} {h : Hp} {a1 : Int32} (vc : (a1 = (0 : Int32) → K (h 44 6) h) ∧ (¬ a1 = (0 : Int32) → (a1 = (1 : Int32) → K (h 44 13) h) ∧ (¬ a1 = (1 : Int32) → (a1 = (2 : Int32) → K (h 44 7) h) ∧ (¬ a1 = (2 : Int32) → (a1 = (3 : Int32) → K (h 45 0) h) ∧ (¬ a1 = (3 : Int32) → (a1 = (4 : Int32) → K ((1 : Int32) - (h 45 1)) h) ∧ (¬ a1 = (4 : Int32) → (a1 = (5 : Int32) → K (h 45 2) h) ∧ (¬ a1 = (5 : Int32) → (a1 = (6 : Int32) → K (h 44 30) h) ∧ (¬ a1 = (6 : Int32) → (a1 = (7 : Int32) → K (h 44 3) h) ∧ (¬ a1 = (7 : Int32) → K (-3 : Int32) h))))))))) : FW g mX8_count 0 [some (.ref 44), some (.int a1)] [] h (q_RI K) := by
  refine QW.iload_n dX8_count_0 rfl ?_
  by_cases c0 : a1 = (0 : Int32)
  · replace vc := vc.1 c0
    refine QW.tabIn 48 dX8_count_1 (by rw [c0]; decide) (by rw [c0]; decide) (by rw [c0]; rfl) rfl ?_
    refine QW.aload_n dX8_count_48 rfl ?_
    refine FW.getI (h 44 6) dX8_count_49 lfX8_23 sI_44_6 rfl ?_
    exact FW.ret dX8_count_52 rfl vc
  · replace vc := vc.2 c0
    by_cases c1 : a1 = (1 : Int32)
    · replace vc := vc.1 c1
      refine QW.tabIn 53 dX8_count_1 (by rw [c1]; decide) (by rw [c1]; decide) (by rw [c1]; rfl) rfl ?_
      refine QW.aload_n dX8_count_53 rfl ?_
      refine FW.getI (h 44 13) dX8_count_54 lfX8_74 sI_44_13 rfl ?_
      exact FW.ret dX8_count_57 rfl vc
    · replace vc := vc.2 c1
      by_cases c2 : a1 = (2 : Int32)
      · replace vc := vc.1 c2
        refine QW.tabIn 58 dX8_count_1 (by rw [c2]; decide) (by rw [c2]; decide) (by rw [c2]; rfl) rfl ?_
        refine QW.aload_n dX8_count_58 rfl ?_
        refine FW.getI (h 44 7) dX8_count_59 lfX8_154 sI_44_7 rfl ?_
        exact FW.ret dX8_count_62 rfl vc
      · replace vc := vc.2 c2
        by_cases c3 : a1 = (3 : Int32)
        · replace vc := vc.1 c3
          refine QW.tabIn 63 dX8_count_1 (by rw [c3]; decide) (by rw [c3]; decide) (by rw [c3]; rfl) rfl ?_
          refine QW.aload_n dX8_count_63 rfl ?_
          refine FW.getR dX8_count_64 lfX8_7 sR_44_0 ?_
          refine QW.iconst (0 : Int32) rfl dX8_count_67 ?_
          refine FW.iald (h 45 0) dX8_count_68 sA_45 (by unfold vp_in; decide) rfl ?_
          exact FW.ret dX8_count_69 rfl vc
        · replace vc := vc.2 c3
          by_cases c4 : a1 = (4 : Int32)
          · replace vc := vc.1 c4
            refine QW.tabIn 70 dX8_count_1 (by rw [c4]; decide) (by rw [c4]; decide) (by rw [c4]; rfl) rfl ?_
            refine QW.iconst (1 : Int32) rfl dX8_count_70 ?_
            refine QW.aload_n dX8_count_71 rfl ?_
            refine FW.getR dX8_count_72 lfX8_7 sR_44_0 ?_
            refine QW.iconst (1 : Int32) rfl dX8_count_75 ?_
            refine FW.iald (h 45 1) dX8_count_76 sA_45 (by unfold vp_in; decide) rfl ?_
            refine QW.isub dX8_count_77 ?_
            exact FW.ret dX8_count_78 rfl vc
          · replace vc := vc.2 c4
            by_cases c5 : a1 = (5 : Int32)
            · replace vc := vc.1 c5
              refine QW.tabIn 79 dX8_count_1 (by rw [c5]; decide) (by rw [c5]; decide) (by rw [c5]; rfl) rfl ?_
              refine QW.aload_n dX8_count_79 rfl ?_
              refine FW.getR dX8_count_80 lfX8_7 sR_44_0 ?_
              refine QW.iconst (2 : Int32) rfl dX8_count_83 ?_
              refine FW.iald (h 45 2) dX8_count_84 sA_45 (by unfold vp_in; decide) rfl ?_
              exact FW.ret dX8_count_85 rfl vc
            · replace vc := vc.2 c5
              by_cases c6 : a1 = (6 : Int32)
              · replace vc := vc.1 c6
                refine QW.tabIn 86 dX8_count_1 (by rw [c6]; decide) (by rw [c6]; decide) (by rw [c6]; rfl) rfl ?_
                refine QW.aload_n dX8_count_86 rfl ?_
                refine FW.getI (h 44 30) dX8_count_87 lfX8_167 sI_44_30 rfl ?_
                exact FW.ret dX8_count_90 rfl vc
              · replace vc := vc.2 c6
                by_cases c7 : a1 = (7 : Int32)
                · replace vc := vc.1 c7
                  refine QW.tabIn 91 dX8_count_1 (by rw [c7]; decide) (by rw [c7]; decide) (by rw [c7]; rfl) rfl ?_
                  refine QW.aload_n dX8_count_91 rfl ?_
                  refine FW.getI (h 44 3) dX8_count_92 lfX8_79 sI_44_3 rfl ?_
                  exact FW.ret dX8_count_95 rfl vc
                · replace vc := vc.2 c7
                  refine QW.tabOut 96 dX8_count_1 (by have n0 := lv_neT c0 (a := 0) (by decide); have n1 := lv_neT c1 (a := 1) (by decide); have n2 := lv_neT c2 (a := 2) (by decide); have n3 := lv_neT c3 (a := 3) (by decide); have n4 := lv_neT c4 (a := 4) (by decide); have n5 := lv_neT c5 (a := 5) (by decide); have n6 := lv_neT c6 (a := 6) (by decide); have n7 := lv_neT c7 (a := 7) (by decide); omega) rfl ?_
                  refine QW.bipush (-3 : Int32) rfl dX8_count_96 ?_
                  exact FW.ret dX8_count_98 rfl vc
theorem vX5_append_0 {g : QG} {K : Hp → Prop} {h : Hp} {a1 : Int32} (vc : ((200 : Int32) ≤ (h 7 1) → K h) ∧ (¬ (200 : Int32) ≤ (h 7 1) → vp_in (h 7 1) 200 ∧ K (q_up (q_up h 8 ((h 7 1).toNatClampNeg) a1) 7 1 ((h 7 1) + (1 : Int32))))) : FW g mX5_append 0 [some (.ref 7), some (.int a1)] [] h (q_RV K) := by
  refine QW.aload_n dX5_append_0 rfl ?_
  refine FW.getI (h 7 1) dX5_append_1 lfX5_25 sI_7_1 rfl ?_
  refine QW.sipush (200 : Int32) rfl dX5_append_4 ?_
  refine QW.icmp_ge 30 dX5_append_7 rfl (fun hc => ?_) (fun hc => ?_)
  · replace vc := vc.1 hc
    exact FW.retV dX5_append_30 rfl vc
  · replace vc := vc.2 hc
    refine QW.aload_n dX5_append_10 rfl ?_
    refine FW.getR dX5_append_11 lfX5_9 sR_7_0 ?_
    refine QW.aload_n dX5_append_14 rfl ?_
    refine FW.getI (h 7 1) dX5_append_15 lfX5_25 sI_7_1 rfl ?_
    refine QW.iload_n dX5_append_18 rfl ?_
    refine FW.iast dX5_append_19 sA_8 vc.1 ?_
    replace vc := vc.2
    refine QW.aload_n dX5_append_20 rfl ?_
    refine QW.dupr dX5_append_21 ?_
    refine FW.getI (h 7 1) dX5_append_22 lfX5_25 sI_7_1 rfl ?_
    refine QW.iconst (1 : Int32) rfl dX5_append_25 ?_
    refine QW.iadd dX5_append_26 ?_
    refine FW.putI dX5_append_27 lfX5_25 sP_7_1 ?_
    exact FW.retV dX5_append_30 rfl vc
theorem vX8_in_0 {g : QG} {K : Int32 → Hp → Prop} {h : Hp} {a0 a2 a4 : Int64} (vc : ((lg_cmp a0 a2) < 0 → K (0 : Int32) h) ∧ (¬ (lg_cmp a0 a2) < 0 → (0 < (lg_cmp a0 a4) → K (0 : Int32) h) ∧ (¬ 0 < (lg_cmp a0 a4) → K (1 : Int32) h))) : FW g mX8_in 0 [some (.long a0), none, some (.long a2), none, some (.long a4), none] [] h (q_RI K) := by
  refine QW.lload_n dX8_in_0 rfl ?_
  refine QW.lload_n dX8_in_1 rfl ?_
  refine QW.lcmp dX8_in_2 ?_
  refine QW.if_lt 17 dX8_in_3 rfl (fun hc => ?_) (fun hc => ?_)
  · replace vc := vc.1 hc
    refine QW.iconst (0 : Int32) rfl dX8_in_17 ?_
    exact FW.retZ (Or.inl rfl) dX8_in_18 rfl vc
  · replace vc := vc.2 hc
    refine QW.lload_n dX8_in_6 rfl ?_
    refine QW.lload dX8_in_7 rfl ?_
    refine QW.lcmp dX8_in_9 ?_
    refine QW.if_gt 17 dX8_in_10 rfl (fun hc => ?_) (fun hc => ?_)
    · replace vc := vc.1 hc
      refine QW.iconst (0 : Int32) rfl dX8_in_17 ?_
      exact FW.retZ (Or.inl rfl) dX8_in_18 rfl vc
    · replace vc := vc.2 hc
      refine QW.iconst (1 : Int32) rfl dX8_in_13 ?_
      refine QW.goto 18 dX8_in_14 rfl ?_
      exact FW.retZ (Or.inr rfl) dX8_in_18 rfl vc
theorem vX8_tell_0 {g : QG} {K : Hp → Prop} {h : Hp} {a1 : Int32} (vc : vp_in (a1 + (1 : Int32)) 60 ∧ vp_in a1 60 ∧ ((h 48 a1.toNatClampNeg) = (0 : Int32) → K (q_up (q_up (q_up h 44 6 (h 48 ((a1 + (1 : Int32)).toNatClampNeg))) 44 7 (0 : Int32)) 44 13 (0 : Int32))) ∧ (¬ (h 48 a1.toNatClampNeg) = (0 : Int32) → ((h 48 a1.toNatClampNeg) = (1 : Int32) → K (q_up h 44 7 ((h 44 7) ^^^ ((1 : Int32) <<< ((h 48 ((a1 + (1 : Int32)).toNatClampNeg)) &&& 31))))) ∧ (¬ (h 48 a1.toNatClampNeg) = (1 : Int32) → ((h 48 a1.toNatClampNeg) = (2 : Int32) → K (q_up h 44 7 ((h 44 7) ^^^ ((1 : Int32) <<< ((h 48 ((a1 + (1 : Int32)).toNatClampNeg)) &&& 31))))) ∧ (¬ (h 48 a1.toNatClampNeg) = (2 : Int32) → ((h 48 a1.toNatClampNeg) = (3 : Int32) → vp_in a1 60 ∧ vp_in (h 44 13) 6 ∧ vp_in (h 44 13) 6 ∧ vp_in (a1 + (2 : Int32)) 60 ∧ vp_in (h 44 13) 6 ∧ vp_in (a1 + (3 : Int32)) 60 ∧ vp_in (h 44 13) 6 ∧ vp_in (a1 + (4 : Int32)) 60 ∧ vp_in (h 44 13) 6 ∧ K (q_up (q_up (q_up (q_up (q_up (q_up h 49 ((h 44 13).toNatClampNeg) ((h 48 a1.toNatClampNeg) - (3 : Int32))) 50 ((h 44 13).toNatClampNeg) (h 48 ((a1 + (1 : Int32)).toNatClampNeg))) 51 ((h 44 13).toNatClampNeg) (h 48 ((a1 + (2 : Int32)).toNatClampNeg))) 52 ((h 44 13).toNatClampNeg) (h 48 ((a1 + (3 : Int32)).toNatClampNeg))) 53 ((h 44 13).toNatClampNeg) (h 48 ((a1 + (4 : Int32)).toNatClampNeg))) 44 13 ((h 44 13) + (1 : Int32)))) ∧ (¬ (h 48 a1.toNatClampNeg) = (3 : Int32) → ((h 48 a1.toNatClampNeg) = (4 : Int32) → vp_in a1 60 ∧ vp_in (h 44 13) 6 ∧ vp_in (h 44 13) 6 ∧ vp_in (a1 + (2 : Int32)) 60 ∧ vp_in (h 44 13) 6 ∧ vp_in (a1 + (3 : Int32)) 60 ∧ vp_in (h 44 13) 6 ∧ vp_in (a1 + (4 : Int32)) 60 ∧ vp_in (h 44 13) 6 ∧ K (q_up (q_up (q_up (q_up (q_up (q_up h 49 ((h 44 13).toNatClampNeg) ((h 48 a1.toNatClampNeg) - (3 : Int32))) 50 ((h 44 13).toNatClampNeg) (h 48 ((a1 + (1 : Int32)).toNatClampNeg))) 51 ((h 44 13).toNatClampNeg) (h 48 ((a1 + (2 : Int32)).toNatClampNeg))) 52 ((h 44 13).toNatClampNeg) (h 48 ((a1 + (3 : Int32)).toNatClampNeg))) 53 ((h 44 13).toNatClampNeg) (h 48 ((a1 + (4 : Int32)).toNatClampNeg))) 44 13 ((h 44 13) + (1 : Int32)))) ∧ (¬ (h 48 a1.toNatClampNeg) = (4 : Int32) → ((h 48 a1.toNatClampNeg) = (5 : Int32) → vp_in a1 60 ∧ vp_in (h 44 13) 6 ∧ vp_in (h 44 13) 6 ∧ vp_in (a1 + (2 : Int32)) 60 ∧ vp_in (h 44 13) 6 ∧ vp_in (a1 + (3 : Int32)) 60 ∧ vp_in (h 44 13) 6 ∧ vp_in (a1 + (4 : Int32)) 60 ∧ vp_in (h 44 13) 6 ∧ K (q_up (q_up (q_up (q_up (q_up (q_up h 49 ((h 44 13).toNatClampNeg) ((h 48 a1.toNatClampNeg) - (3 : Int32))) 50 ((h 44 13).toNatClampNeg) (h 48 ((a1 + (1 : Int32)).toNatClampNeg))) 51 ((h 44 13).toNatClampNeg) (h 48 ((a1 + (2 : Int32)).toNatClampNeg))) 52 ((h 44 13).toNatClampNeg) (h 48 ((a1 + (3 : Int32)).toNatClampNeg))) 53 ((h 44 13).toNatClampNeg) (h 48 ((a1 + (4 : Int32)).toNatClampNeg))) 44 13 ((h 44 13) + (1 : Int32)))) ∧ (¬ (h 48 a1.toNatClampNeg) = (5 : Int32) → ((h 48 a1.toNatClampNeg) = (6 : Int32) → vp_in a1 60 ∧ vp_in (h 44 13) 6 ∧ vp_in (h 44 13) 6 ∧ vp_in (a1 + (2 : Int32)) 60 ∧ vp_in (h 44 13) 6 ∧ vp_in (a1 + (3 : Int32)) 60 ∧ vp_in (h 44 13) 6 ∧ vp_in (a1 + (4 : Int32)) 60 ∧ vp_in (h 44 13) 6 ∧ K (q_up (q_up (q_up (q_up (q_up (q_up h 49 ((h 44 13).toNatClampNeg) ((h 48 a1.toNatClampNeg) - (3 : Int32))) 50 ((h 44 13).toNatClampNeg) (h 48 ((a1 + (1 : Int32)).toNatClampNeg))) 51 ((h 44 13).toNatClampNeg) (h 48 ((a1 + (2 : Int32)).toNatClampNeg))) 52 ((h 44 13).toNatClampNeg) (h 48 ((a1 + (3 : Int32)).toNatClampNeg))) 53 ((h 44 13).toNatClampNeg) (h 48 ((a1 + (4 : Int32)).toNatClampNeg))) 44 13 ((h 44 13) + (1 : Int32)))) ∧ (¬ (h 48 a1.toNatClampNeg) = (6 : Int32) → ((h 48 a1.toNatClampNeg) = (7 : Int32) → K (q_up h 44 13 (0 : Int32))) ∧ (¬ (h 48 a1.toNatClampNeg) = (7 : Int32) → vp_in a1 60 ∧ vp_in (h 44 13) 6 ∧ vp_in (h 44 13) 6 ∧ vp_in (a1 + (2 : Int32)) 60 ∧ vp_in (h 44 13) 6 ∧ vp_in (a1 + (3 : Int32)) 60 ∧ vp_in (h 44 13) 6 ∧ vp_in (a1 + (4 : Int32)) 60 ∧ vp_in (h 44 13) 6 ∧ K (q_up (q_up (q_up (q_up (q_up (q_up h 49 ((h 44 13).toNatClampNeg) ((h 48 a1.toNatClampNeg) - (3 : Int32))) 50 ((h 44 13).toNatClampNeg) (h 48 ((a1 + (1 : Int32)).toNatClampNeg))) 51 ((h 44 13).toNatClampNeg) (h 48 ((a1 + (2 : Int32)).toNatClampNeg))) 52 ((h 44 13).toNatClampNeg) (h 48 ((a1 + (3 : Int32)).toNatClampNeg))) 53 ((h 44 13).toNatClampNeg) (h 48 ((a1 + (4 : Int32)).toNatClampNeg))) 44 13 ((h 44 13) + (1 : Int32)))))))))))) : FW g mX8_tell 0 [some (.ref 44), some (.int a1), none] [] h (q_RV K) := by
  refine QW.aload_n dX8_tell_0 rfl ?_
  refine FW.getR dX8_tell_1 lfX8_20 sR_44_4 ?_
  refine QW.iload_n dX8_tell_4 rfl ?_
  refine QW.iconst (1 : Int32) rfl dX8_tell_5 ?_
  refine QW.iadd dX8_tell_6 ?_
  refine FW.iald (h 48 ((a1 + (1 : Int32)).toNatClampNeg)) dX8_tell_7 sA_48 vc.1 rfl ?_
  replace vc := vc.2
  refine QW.istore_n [some (.ref 44), some (.int a1), some (.int (h 48 ((a1 + (1 : Int32)).toNatClampNeg)))] dX8_tell_8 (by decide) rfl rfl ?_
  refine QW.aload_n dX8_tell_9 rfl ?_
  refine FW.getR dX8_tell_10 lfX8_20 sR_44_4 ?_
  refine QW.iload_n dX8_tell_13 rfl ?_
  refine FW.iald (h 48 a1.toNatClampNeg) dX8_tell_14 sA_48 vc.1 rfl ?_
  replace vc := vc.2
  by_cases c0 : (h 48 a1.toNatClampNeg) = (0 : Int32)
  · replace vc := vc.1 c0
    refine QW.tabIn 60 dX8_tell_15 (by rw [c0]; decide) (by rw [c0]; decide) (by rw [c0]; rfl) rfl ?_
    refine QW.aload_n dX8_tell_60 rfl ?_
    refine QW.iload_n dX8_tell_61 rfl ?_
    refine FW.putI dX8_tell_62 lfX8_23 sP_44_6 ?_
    refine QW.aload_n dX8_tell_65 rfl ?_
    refine QW.iconst (0 : Int32) rfl dX8_tell_66 ?_
    refine FW.putI dX8_tell_67 lfX8_154 sP_44_7 ?_
    refine QW.aload_n dX8_tell_70 rfl ?_
    refine QW.iconst (0 : Int32) rfl dX8_tell_71 ?_
    refine FW.putI dX8_tell_72 lfX8_74 sP_44_13 ?_
    exact FW.retV dX8_tell_75 rfl vc
  · replace vc := vc.2 c0
    by_cases c1 : (h 48 a1.toNatClampNeg) = (1 : Int32)
    · replace vc := vc.1 c1
      refine QW.tabIn 76 dX8_tell_15 (by rw [c1]; decide) (by rw [c1]; decide) (by rw [c1]; rfl) rfl ?_
      refine QW.aload_n dX8_tell_76 rfl ?_
      refine QW.dupr dX8_tell_77 ?_
      refine FW.getI (h 44 7) dX8_tell_78 lfX8_154 sI_44_7 rfl ?_
      refine QW.iconst (1 : Int32) rfl dX8_tell_81 ?_
      refine QW.iload_n dX8_tell_82 rfl ?_
      refine QW.ishl dX8_tell_83 ?_
      refine QW.ixor dX8_tell_84 ?_
      refine FW.putI dX8_tell_85 lfX8_154 sP_44_7 ?_
      exact FW.retV dX8_tell_88 rfl vc
    · replace vc := vc.2 c1
      by_cases c2 : (h 48 a1.toNatClampNeg) = (2 : Int32)
      · replace vc := vc.1 c2
        refine QW.tabIn 76 dX8_tell_15 (by rw [c2]; decide) (by rw [c2]; decide) (by rw [c2]; rfl) rfl ?_
        refine QW.aload_n dX8_tell_76 rfl ?_
        refine QW.dupr dX8_tell_77 ?_
        refine FW.getI (h 44 7) dX8_tell_78 lfX8_154 sI_44_7 rfl ?_
        refine QW.iconst (1 : Int32) rfl dX8_tell_81 ?_
        refine QW.iload_n dX8_tell_82 rfl ?_
        refine QW.ishl dX8_tell_83 ?_
        refine QW.ixor dX8_tell_84 ?_
        refine FW.putI dX8_tell_85 lfX8_154 sP_44_7 ?_
        exact FW.retV dX8_tell_88 rfl vc
      · replace vc := vc.2 c2
        by_cases c3 : (h 48 a1.toNatClampNeg) = (3 : Int32)
        · replace vc := vc.1 c3
          refine QW.tabIn 95 dX8_tell_15 (by rw [c3]; decide) (by rw [c3]; decide) (by rw [c3]; rfl) rfl ?_
          refine QW.aload_n dX8_tell_95 rfl ?_
          refine FW.getR dX8_tell_96 lfX8_27 sR_44_8 ?_
          refine QW.aload_n dX8_tell_99 rfl ?_
          refine FW.getI (h 44 13) dX8_tell_100 lfX8_74 sI_44_13 rfl ?_
          refine QW.aload_n dX8_tell_103 rfl ?_
          refine FW.getR dX8_tell_104 lfX8_20 sR_44_4 ?_
          refine QW.iload_n dX8_tell_107 rfl ?_
          refine FW.iald (h 48 a1.toNatClampNeg) dX8_tell_108 sA_48 vc.1 rfl ?_
          replace vc := vc.2
          refine QW.iconst (3 : Int32) rfl dX8_tell_109 ?_
          refine QW.isub dX8_tell_110 ?_
          refine FW.iast dX8_tell_111 sA_49 vc.1 ?_
          replace vc := vc.2
          refine QW.aload_n dX8_tell_112 rfl ?_
          refine FW.getR dX8_tell_113 lfX8_30 sR_44_9 ?_
          refine QW.aload_n dX8_tell_116 rfl ?_
          refine FW.getI (h 44 13) dX8_tell_117 lfX8_74 sI_44_13 rfl ?_
          refine QW.iload_n dX8_tell_120 rfl ?_
          refine FW.iast dX8_tell_121 sA_50 vc.1 ?_
          replace vc := vc.2
          refine QW.aload_n dX8_tell_122 rfl ?_
          refine FW.getR dX8_tell_123 lfX8_33 sR_44_10 ?_
          refine QW.aload_n dX8_tell_126 rfl ?_
          refine FW.getI (h 44 13) dX8_tell_127 lfX8_74 sI_44_13 rfl ?_
          refine QW.aload_n dX8_tell_130 rfl ?_
          refine FW.getR dX8_tell_131 lfX8_20 sR_44_4 ?_
          refine QW.iload_n dX8_tell_134 rfl ?_
          refine QW.iconst (2 : Int32) rfl dX8_tell_135 ?_
          refine QW.iadd dX8_tell_136 ?_
          refine FW.iald (h 48 ((a1 + (2 : Int32)).toNatClampNeg)) dX8_tell_137 sA_48 vc.1 rfl ?_
          replace vc := vc.2
          refine FW.iast dX8_tell_138 sA_51 vc.1 ?_
          replace vc := vc.2
          refine QW.aload_n dX8_tell_139 rfl ?_
          refine FW.getR dX8_tell_140 lfX8_36 sR_44_11 ?_
          refine QW.aload_n dX8_tell_143 rfl ?_
          refine FW.getI (h 44 13) dX8_tell_144 lfX8_74 sI_44_13 rfl ?_
          refine QW.aload_n dX8_tell_147 rfl ?_
          refine FW.getR dX8_tell_148 lfX8_20 sR_44_4 ?_
          refine QW.iload_n dX8_tell_151 rfl ?_
          refine QW.iconst (3 : Int32) rfl dX8_tell_152 ?_
          refine QW.iadd dX8_tell_153 ?_
          refine FW.iald (h 48 ((a1 + (3 : Int32)).toNatClampNeg)) dX8_tell_154 sA_48 vc.1 rfl ?_
          replace vc := vc.2
          refine FW.iast dX8_tell_155 sA_52 vc.1 ?_
          replace vc := vc.2
          refine QW.aload_n dX8_tell_156 rfl ?_
          refine FW.getR dX8_tell_157 lfX8_39 sR_44_12 ?_
          refine QW.aload_n dX8_tell_160 rfl ?_
          refine FW.getI (h 44 13) dX8_tell_161 lfX8_74 sI_44_13 rfl ?_
          refine QW.aload_n dX8_tell_164 rfl ?_
          refine FW.getR dX8_tell_165 lfX8_20 sR_44_4 ?_
          refine QW.iload_n dX8_tell_168 rfl ?_
          refine QW.iconst (4 : Int32) rfl dX8_tell_169 ?_
          refine QW.iadd dX8_tell_170 ?_
          refine FW.iald (h 48 ((a1 + (4 : Int32)).toNatClampNeg)) dX8_tell_171 sA_48 vc.1 rfl ?_
          replace vc := vc.2
          refine FW.iast dX8_tell_172 sA_53 vc.1 ?_
          replace vc := vc.2
          refine QW.aload_n dX8_tell_173 rfl ?_
          refine QW.dupr dX8_tell_174 ?_
          refine FW.getI (h 44 13) dX8_tell_175 lfX8_74 sI_44_13 rfl ?_
          refine QW.iconst (1 : Int32) rfl dX8_tell_178 ?_
          refine QW.iadd dX8_tell_179 ?_
          refine FW.putI dX8_tell_180 lfX8_74 sP_44_13 ?_
          exact FW.retV dX8_tell_183 rfl vc
        · replace vc := vc.2 c3
          by_cases c4 : (h 48 a1.toNatClampNeg) = (4 : Int32)
          · replace vc := vc.1 c4
            refine QW.tabIn 95 dX8_tell_15 (by rw [c4]; decide) (by rw [c4]; decide) (by rw [c4]; rfl) rfl ?_
            refine QW.aload_n dX8_tell_95 rfl ?_
            refine FW.getR dX8_tell_96 lfX8_27 sR_44_8 ?_
            refine QW.aload_n dX8_tell_99 rfl ?_
            refine FW.getI (h 44 13) dX8_tell_100 lfX8_74 sI_44_13 rfl ?_
            refine QW.aload_n dX8_tell_103 rfl ?_
            refine FW.getR dX8_tell_104 lfX8_20 sR_44_4 ?_
            refine QW.iload_n dX8_tell_107 rfl ?_
            refine FW.iald (h 48 a1.toNatClampNeg) dX8_tell_108 sA_48 vc.1 rfl ?_
            replace vc := vc.2
            refine QW.iconst (3 : Int32) rfl dX8_tell_109 ?_
            refine QW.isub dX8_tell_110 ?_
            refine FW.iast dX8_tell_111 sA_49 vc.1 ?_
            replace vc := vc.2
            refine QW.aload_n dX8_tell_112 rfl ?_
            refine FW.getR dX8_tell_113 lfX8_30 sR_44_9 ?_
            refine QW.aload_n dX8_tell_116 rfl ?_
            refine FW.getI (h 44 13) dX8_tell_117 lfX8_74 sI_44_13 rfl ?_
            refine QW.iload_n dX8_tell_120 rfl ?_
            refine FW.iast dX8_tell_121 sA_50 vc.1 ?_
            replace vc := vc.2
            refine QW.aload_n dX8_tell_122 rfl ?_
            refine FW.getR dX8_tell_123 lfX8_33 sR_44_10 ?_
            refine QW.aload_n dX8_tell_126 rfl ?_
            refine FW.getI (h 44 13) dX8_tell_127 lfX8_74 sI_44_13 rfl ?_
            refine QW.aload_n dX8_tell_130 rfl ?_
            refine FW.getR dX8_tell_131 lfX8_20 sR_44_4 ?_
            refine QW.iload_n dX8_tell_134 rfl ?_
            refine QW.iconst (2 : Int32) rfl dX8_tell_135 ?_
            refine QW.iadd dX8_tell_136 ?_
            refine FW.iald (h 48 ((a1 + (2 : Int32)).toNatClampNeg)) dX8_tell_137 sA_48 vc.1 rfl ?_
            replace vc := vc.2
            refine FW.iast dX8_tell_138 sA_51 vc.1 ?_
            replace vc := vc.2
            refine QW.aload_n dX8_tell_139 rfl ?_
            refine FW.getR dX8_tell_140 lfX8_36 sR_44_11 ?_
            refine QW.aload_n dX8_tell_143 rfl ?_
            refine FW.getI (h 44 13) dX8_tell_144 lfX8_74 sI_44_13 rfl ?_
            refine QW.aload_n dX8_tell_147 rfl ?_
            refine FW.getR dX8_tell_148 lfX8_20 sR_44_4 ?_
            refine QW.iload_n dX8_tell_151 rfl ?_
            refine QW.iconst (3 : Int32) rfl dX8_tell_152 ?_
            refine QW.iadd dX8_tell_153 ?_
            refine FW.iald (h 48 ((a1 + (3 : Int32)).toNatClampNeg)) dX8_tell_154 sA_48 vc.1 rfl ?_
            replace vc := vc.2
            refine FW.iast dX8_tell_155 sA_52 vc.1 ?_
            replace vc := vc.2
            refine QW.aload_n dX8_tell_156 rfl ?_
            refine FW.getR dX8_tell_157 lfX8_39 sR_44_12 ?_
            refine QW.aload_n dX8_tell_160 rfl ?_
            refine FW.getI (h 44 13) dX8_tell_161 lfX8_74 sI_44_13 rfl ?_
            refine QW.aload_n dX8_tell_164 rfl ?_
            refine FW.getR dX8_tell_165 lfX8_20 sR_44_4 ?_
            refine QW.iload_n dX8_tell_168 rfl ?_
            refine QW.iconst (4 : Int32) rfl dX8_tell_169 ?_
            refine QW.iadd dX8_tell_170 ?_
            refine FW.iald (h 48 ((a1 + (4 : Int32)).toNatClampNeg)) dX8_tell_171 sA_48 vc.1 rfl ?_
            replace vc := vc.2
            refine FW.iast dX8_tell_172 sA_53 vc.1 ?_
            replace vc := vc.2
            refine QW.aload_n dX8_tell_173 rfl ?_
            refine QW.dupr dX8_tell_174 ?_
            refine FW.getI (h 44 13) dX8_tell_175 lfX8_74 sI_44_13 rfl ?_
            refine QW.iconst (1 : Int32) rfl dX8_tell_178 ?_
            refine QW.iadd dX8_tell_179 ?_
            refine FW.putI dX8_tell_180 lfX8_74 sP_44_13 ?_
            exact FW.retV dX8_tell_183 rfl vc
          · replace vc := vc.2 c4
            by_cases c5 : (h 48 a1.toNatClampNeg) = (5 : Int32)
            · replace vc := vc.1 c5
              refine QW.tabIn 95 dX8_tell_15 (by rw [c5]; decide) (by rw [c5]; decide) (by rw [c5]; rfl) rfl ?_
              refine QW.aload_n dX8_tell_95 rfl ?_
              refine FW.getR dX8_tell_96 lfX8_27 sR_44_8 ?_
              refine QW.aload_n dX8_tell_99 rfl ?_
              refine FW.getI (h 44 13) dX8_tell_100 lfX8_74 sI_44_13 rfl ?_
              refine QW.aload_n dX8_tell_103 rfl ?_
              refine FW.getR dX8_tell_104 lfX8_20 sR_44_4 ?_
              refine QW.iload_n dX8_tell_107 rfl ?_
              refine FW.iald (h 48 a1.toNatClampNeg) dX8_tell_108 sA_48 vc.1 rfl ?_
              replace vc := vc.2
              refine QW.iconst (3 : Int32) rfl dX8_tell_109 ?_
              refine QW.isub dX8_tell_110 ?_
              refine FW.iast dX8_tell_111 sA_49 vc.1 ?_
              replace vc := vc.2
              refine QW.aload_n dX8_tell_112 rfl ?_
              refine FW.getR dX8_tell_113 lfX8_30 sR_44_9 ?_
              refine QW.aload_n dX8_tell_116 rfl ?_
              refine FW.getI (h 44 13) dX8_tell_117 lfX8_74 sI_44_13 rfl ?_
              refine QW.iload_n dX8_tell_120 rfl ?_
              refine FW.iast dX8_tell_121 sA_50 vc.1 ?_
              replace vc := vc.2
              refine QW.aload_n dX8_tell_122 rfl ?_
              refine FW.getR dX8_tell_123 lfX8_33 sR_44_10 ?_
              refine QW.aload_n dX8_tell_126 rfl ?_
              refine FW.getI (h 44 13) dX8_tell_127 lfX8_74 sI_44_13 rfl ?_
              refine QW.aload_n dX8_tell_130 rfl ?_
              refine FW.getR dX8_tell_131 lfX8_20 sR_44_4 ?_
              refine QW.iload_n dX8_tell_134 rfl ?_
              refine QW.iconst (2 : Int32) rfl dX8_tell_135 ?_
              refine QW.iadd dX8_tell_136 ?_
              refine FW.iald (h 48 ((a1 + (2 : Int32)).toNatClampNeg)) dX8_tell_137 sA_48 vc.1 rfl ?_
              replace vc := vc.2
              refine FW.iast dX8_tell_138 sA_51 vc.1 ?_
              replace vc := vc.2
              refine QW.aload_n dX8_tell_139 rfl ?_
              refine FW.getR dX8_tell_140 lfX8_36 sR_44_11 ?_
              refine QW.aload_n dX8_tell_143 rfl ?_
              refine FW.getI (h 44 13) dX8_tell_144 lfX8_74 sI_44_13 rfl ?_
              refine QW.aload_n dX8_tell_147 rfl ?_
              refine FW.getR dX8_tell_148 lfX8_20 sR_44_4 ?_
              refine QW.iload_n dX8_tell_151 rfl ?_
              refine QW.iconst (3 : Int32) rfl dX8_tell_152 ?_
              refine QW.iadd dX8_tell_153 ?_
              refine FW.iald (h 48 ((a1 + (3 : Int32)).toNatClampNeg)) dX8_tell_154 sA_48 vc.1 rfl ?_
              replace vc := vc.2
              refine FW.iast dX8_tell_155 sA_52 vc.1 ?_
              replace vc := vc.2
              refine QW.aload_n dX8_tell_156 rfl ?_
              refine FW.getR dX8_tell_157 lfX8_39 sR_44_12 ?_
              refine QW.aload_n dX8_tell_160 rfl ?_
              refine FW.getI (h 44 13) dX8_tell_161 lfX8_74 sI_44_13 rfl ?_
              refine QW.aload_n dX8_tell_164 rfl ?_
              refine FW.getR dX8_tell_165 lfX8_20 sR_44_4 ?_
              refine QW.iload_n dX8_tell_168 rfl ?_
              refine QW.iconst (4 : Int32) rfl dX8_tell_169 ?_
              refine QW.iadd dX8_tell_170 ?_
              refine FW.iald (h 48 ((a1 + (4 : Int32)).toNatClampNeg)) dX8_tell_171 sA_48 vc.1 rfl ?_
              replace vc := vc.2
              refine FW.iast dX8_tell_172 sA_53 vc.1 ?_
              replace vc := vc.2
              refine QW.aload_n dX8_tell_173 rfl ?_
              refine QW.dupr dX8_tell_174 ?_
              refine FW.getI (h 44 13) dX8_tell_175 lfX8_74 sI_44_13 rfl ?_
              refine QW.iconst (1 : Int32) rfl dX8_tell_178 ?_
              refine QW.iadd dX8_tell_179 ?_
              refine FW.putI dX8_tell_180 lfX8_74 sP_44_13 ?_
              exact FW.retV dX8_tell_183 rfl vc
            · replace vc := vc.2 c5
              by_cases c6 : (h 48 a1.toNatClampNeg) = (6 : Int32)
              · replace vc := vc.1 c6
                refine QW.tabIn 95 dX8_tell_15 (by rw [c6]; decide) (by rw [c6]; decide) (by rw [c6]; rfl) rfl ?_
                refine QW.aload_n dX8_tell_95 rfl ?_
                refine FW.getR dX8_tell_96 lfX8_27 sR_44_8 ?_
                refine QW.aload_n dX8_tell_99 rfl ?_
                refine FW.getI (h 44 13) dX8_tell_100 lfX8_74 sI_44_13 rfl ?_
                refine QW.aload_n dX8_tell_103 rfl ?_
                refine FW.getR dX8_tell_104 lfX8_20 sR_44_4 ?_
                refine QW.iload_n dX8_tell_107 rfl ?_
                refine FW.iald (h 48 a1.toNatClampNeg) dX8_tell_108 sA_48 vc.1 rfl ?_
                replace vc := vc.2
                refine QW.iconst (3 : Int32) rfl dX8_tell_109 ?_
                refine QW.isub dX8_tell_110 ?_
                refine FW.iast dX8_tell_111 sA_49 vc.1 ?_
                replace vc := vc.2
                refine QW.aload_n dX8_tell_112 rfl ?_
                refine FW.getR dX8_tell_113 lfX8_30 sR_44_9 ?_
                refine QW.aload_n dX8_tell_116 rfl ?_
                refine FW.getI (h 44 13) dX8_tell_117 lfX8_74 sI_44_13 rfl ?_
                refine QW.iload_n dX8_tell_120 rfl ?_
                refine FW.iast dX8_tell_121 sA_50 vc.1 ?_
                replace vc := vc.2
                refine QW.aload_n dX8_tell_122 rfl ?_
                refine FW.getR dX8_tell_123 lfX8_33 sR_44_10 ?_
                refine QW.aload_n dX8_tell_126 rfl ?_
                refine FW.getI (h 44 13) dX8_tell_127 lfX8_74 sI_44_13 rfl ?_
                refine QW.aload_n dX8_tell_130 rfl ?_
                refine FW.getR dX8_tell_131 lfX8_20 sR_44_4 ?_
                refine QW.iload_n dX8_tell_134 rfl ?_
                refine QW.iconst (2 : Int32) rfl dX8_tell_135 ?_
                refine QW.iadd dX8_tell_136 ?_
                refine FW.iald (h 48 ((a1 + (2 : Int32)).toNatClampNeg)) dX8_tell_137 sA_48 vc.1 rfl ?_
                replace vc := vc.2
                refine FW.iast dX8_tell_138 sA_51 vc.1 ?_
                replace vc := vc.2
                refine QW.aload_n dX8_tell_139 rfl ?_
                refine FW.getR dX8_tell_140 lfX8_36 sR_44_11 ?_
                refine QW.aload_n dX8_tell_143 rfl ?_
                refine FW.getI (h 44 13) dX8_tell_144 lfX8_74 sI_44_13 rfl ?_
                refine QW.aload_n dX8_tell_147 rfl ?_
                refine FW.getR dX8_tell_148 lfX8_20 sR_44_4 ?_
                refine QW.iload_n dX8_tell_151 rfl ?_
                refine QW.iconst (3 : Int32) rfl dX8_tell_152 ?_
                refine QW.iadd dX8_tell_153 ?_
                refine FW.iald (h 48 ((a1 + (3 : Int32)).toNatClampNeg)) dX8_tell_154 sA_48 vc.1 rfl ?_
                replace vc := vc.2
                refine FW.iast dX8_tell_155 sA_52 vc.1 ?_
                replace vc := vc.2
                refine QW.aload_n dX8_tell_156 rfl ?_
                refine FW.getR dX8_tell_157 lfX8_39 sR_44_12 ?_
                refine QW.aload_n dX8_tell_160 rfl ?_
                refine FW.getI (h 44 13) dX8_tell_161 lfX8_74 sI_44_13 rfl ?_
                refine QW.aload_n dX8_tell_164 rfl ?_
                refine FW.getR dX8_tell_165 lfX8_20 sR_44_4 ?_
                refine QW.iload_n dX8_tell_168 rfl ?_
                refine QW.iconst (4 : Int32) rfl dX8_tell_169 ?_
                refine QW.iadd dX8_tell_170 ?_
                refine FW.iald (h 48 ((a1 + (4 : Int32)).toNatClampNeg)) dX8_tell_171 sA_48 vc.1 rfl ?_
                replace vc := vc.2
                refine FW.iast dX8_tell_172 sA_53 vc.1 ?_
                replace vc := vc.2
                refine QW.aload_n dX8_tell_173 rfl ?_
                refine QW.dupr dX8_tell_174 ?_
                refine FW.getI (h 44 13) dX8_tell_175 lfX8_74 sI_44_13 rfl ?_
                refine QW.iconst (1 : Int32) rfl dX8_tell_178 ?_
                refine QW.iadd dX8_tell_179 ?_
                refine FW.putI dX8_tell_180 lfX8_74 sP_44_13 ?_
                exact FW.retV dX8_tell_183 rfl vc
              · replace vc := vc.2 c6
                by_cases c7 : (h 48 a1.toNatClampNeg) = (7 : Int32)
                · replace vc := vc.1 c7
                  refine QW.tabIn 89 dX8_tell_15 (by rw [c7]; decide) (by rw [c7]; decide) (by rw [c7]; rfl) rfl ?_
                  refine QW.aload_n dX8_tell_89 rfl ?_
                  refine QW.iconst (0 : Int32) rfl dX8_tell_90 ?_
                  refine FW.putI dX8_tell_91 lfX8_74 sP_44_13 ?_
                  exact FW.retV dX8_tell_94 rfl vc
                · replace vc := vc.2 c7
                  refine QW.tabOut 95 dX8_tell_15 (by have n0 := lv_neT c0 (a := 0) (by decide); have n1 := lv_neT c1 (a := 1) (by decide); have n2 := lv_neT c2 (a := 2) (by decide); have n3 := lv_neT c3 (a := 3) (by decide); have n4 := lv_neT c4 (a := 4) (by decide); have n5 := lv_neT c5 (a := 5) (by decide); have n6 := lv_neT c6 (a := 6) (by decide); have n7 := lv_neT c7 (a := 7) (by decide); omega) rfl ?_
                  refine QW.aload_n dX8_tell_95 rfl ?_
                  refine FW.getR dX8_tell_96 lfX8_27 sR_44_8 ?_
                  refine QW.aload_n dX8_tell_99 rfl ?_
                  refine FW.getI (h 44 13) dX8_tell_100 lfX8_74 sI_44_13 rfl ?_
                  refine QW.aload_n dX8_tell_103 rfl ?_
                  refine FW.getR dX8_tell_104 lfX8_20 sR_44_4 ?_
                  refine QW.iload_n dX8_tell_107 rfl ?_
                  refine FW.iald (h 48 a1.toNatClampNeg) dX8_tell_108 sA_48 vc.1 rfl ?_
                  replace vc := vc.2
                  refine QW.iconst (3 : Int32) rfl dX8_tell_109 ?_
                  refine QW.isub dX8_tell_110 ?_
                  refine FW.iast dX8_tell_111 sA_49 vc.1 ?_
                  replace vc := vc.2
                  refine QW.aload_n dX8_tell_112 rfl ?_
                  refine FW.getR dX8_tell_113 lfX8_30 sR_44_9 ?_
                  refine QW.aload_n dX8_tell_116 rfl ?_
                  refine FW.getI (h 44 13) dX8_tell_117 lfX8_74 sI_44_13 rfl ?_
                  refine QW.iload_n dX8_tell_120 rfl ?_
                  refine FW.iast dX8_tell_121 sA_50 vc.1 ?_
                  replace vc := vc.2
                  refine QW.aload_n dX8_tell_122 rfl ?_
                  refine FW.getR dX8_tell_123 lfX8_33 sR_44_10 ?_
                  refine QW.aload_n dX8_tell_126 rfl ?_
                  refine FW.getI (h 44 13) dX8_tell_127 lfX8_74 sI_44_13 rfl ?_
                  refine QW.aload_n dX8_tell_130 rfl ?_
                  refine FW.getR dX8_tell_131 lfX8_20 sR_44_4 ?_
                  refine QW.iload_n dX8_tell_134 rfl ?_
                  refine QW.iconst (2 : Int32) rfl dX8_tell_135 ?_
                  refine QW.iadd dX8_tell_136 ?_
                  refine FW.iald (h 48 ((a1 + (2 : Int32)).toNatClampNeg)) dX8_tell_137 sA_48 vc.1 rfl ?_
                  replace vc := vc.2
                  refine FW.iast dX8_tell_138 sA_51 vc.1 ?_
                  replace vc := vc.2
                  refine QW.aload_n dX8_tell_139 rfl ?_
                  refine FW.getR dX8_tell_140 lfX8_36 sR_44_11 ?_
                  refine QW.aload_n dX8_tell_143 rfl ?_
                  refine FW.getI (h 44 13) dX8_tell_144 lfX8_74 sI_44_13 rfl ?_
                  refine QW.aload_n dX8_tell_147 rfl ?_
                  refine FW.getR dX8_tell_148 lfX8_20 sR_44_4 ?_
                  refine QW.iload_n dX8_tell_151 rfl ?_
                  refine QW.iconst (3 : Int32) rfl dX8_tell_152 ?_
                  refine QW.iadd dX8_tell_153 ?_
                  refine FW.iald (h 48 ((a1 + (3 : Int32)).toNatClampNeg)) dX8_tell_154 sA_48 vc.1 rfl ?_
                  replace vc := vc.2
                  refine FW.iast dX8_tell_155 sA_52 vc.1 ?_
                  replace vc := vc.2
                  refine QW.aload_n dX8_tell_156 rfl ?_
                  refine FW.getR dX8_tell_157 lfX8_39 sR_44_12 ?_
                  refine QW.aload_n dX8_tell_160 rfl ?_
                  refine FW.getI (h 44 13) dX8_tell_161 lfX8_74 sI_44_13 rfl ?_
                  refine QW.aload_n dX8_tell_164 rfl ?_
                  refine FW.getR dX8_tell_165 lfX8_20 sR_44_4 ?_
                  refine QW.iload_n dX8_tell_168 rfl ?_
                  refine QW.iconst (4 : Int32) rfl dX8_tell_169 ?_
                  refine QW.iadd dX8_tell_170 ?_
                  refine FW.iald (h 48 ((a1 + (4 : Int32)).toNatClampNeg)) dX8_tell_171 sA_48 vc.1 rfl ?_
                  replace vc := vc.2
                  refine FW.iast dX8_tell_172 sA_53 vc.1 ?_
                  replace vc := vc.2
                  refine QW.aload_n dX8_tell_173 rfl ?_
                  refine QW.dupr dX8_tell_174 ?_
                  refine FW.getI (h 44 13) dX8_tell_175 lfX8_74 sI_44_13 rfl ?_
                  refine QW.iconst (1 : Int32) rfl dX8_tell_178 ?_
                  refine QW.iadd dX8_tell_179 ?_
                  refine FW.putI dX8_tell_180 lfX8_74 sP_44_13 ?_
                  exact FW.retV dX8_tell_183 rfl vc
theorem vX6_hasPlace_r1_0 {g : QG} {K : Int32 → Hp → Prop} {h : Hp} {a1 : Int32} (vc : (a1 < 0 → K (0 : Int32) h) ∧ (¬ a1 < 0 → ((h 1 0) ≤ a1 → K (0 : Int32) h) ∧ (¬ (h 1 0) ≤ a1 → K (1 : Int32) h))) : FW g mX6_hasPlace 0 [some (.ref 1), some (.int a1)] [] h (q_RI K) := by
  refine QW.iload_n dX6_hasPlace_0 rfl ?_
  refine QW.if_lt 16 dX6_hasPlace_1 rfl (fun hc => ?_) (fun hc => ?_)
  · replace vc := vc.1 hc
    refine QW.iconst (0 : Int32) rfl dX6_hasPlace_16 ?_
    exact FW.retZ (Or.inl rfl) dX6_hasPlace_17 rfl vc
  · replace vc := vc.2 hc
    refine QW.iload_n dX6_hasPlace_4 rfl ?_
    refine QW.aload_n dX6_hasPlace_5 rfl ?_
    refine FW.getI (h 1 0) dX6_hasPlace_6 lfX6_9 sI_1_0 rfl ?_
    refine QW.icmp_ge 16 dX6_hasPlace_9 rfl (fun hc => ?_) (fun hc => ?_)
    · replace vc := vc.1 hc
      refine QW.iconst (0 : Int32) rfl dX6_hasPlace_16 ?_
      exact FW.retZ (Or.inl rfl) dX6_hasPlace_17 rfl vc
    · replace vc := vc.2 hc
      refine QW.iconst (1 : Int32) rfl dX6_hasPlace_12 ?_
      refine QW.goto 17 dX6_hasPlace_13 rfl ?_
      exact FW.retZ (Or.inr rfl) dX6_hasPlace_17 rfl vc
theorem vX0_whoIsAt_0 {g : QG} {K : Int32 → Hp → Prop} {h : Hp} {a1 a2 : Int32} (vc : FW g mX0_whoIsAt 5 [some (.ref 26), some (.int a1), some (.int a2), some (.int (0 : Int32)), some (.int (0 : Int32))] [] h (q_RI K)) : FW g mX0_whoIsAt 0 [some (.ref 26), some (.int a1), some (.int a2), none, none] [] h (q_RI K) := by
  refine QW.iconst (0 : Int32) rfl dX0_whoIsAt_0 ?_
  refine QW.istore_n [some (.ref 26), some (.int a1), some (.int a2), some (.int (0 : Int32)), none] dX0_whoIsAt_1 (by decide) rfl rfl ?_
  refine QW.iconst (0 : Int32) rfl dX0_whoIsAt_2 ?_
  refine QW.istore [some (.ref 26), some (.int a1), some (.int a2), some (.int (0 : Int32)), some (.int (0 : Int32))] dX0_whoIsAt_3 (by decide) rfl rfl ?_
  exact vc
theorem vX0_whoIsAt_5 {g : QG} {K : Int32 → Hp → Prop} {h : Hp} {a1 a2 a3 a4 : Int32} (vc : (a2 ≤ a4 → K a3 h) ∧ (¬ a2 ≤ a4 → vp_in a4 6 ∧ (¬ (h 27 a4.toNatClampNeg) = a1 → FW g mX0_whoIsAt 5 [some (.ref 26), some (.int a1), some (.int a2), some (.int a3), some (.int (a4 + (1 : Int32)))] [] h (q_RI K)) ∧ ((h 27 a4.toNatClampNeg) = a1 → FW g mX0_whoIsAt 5 [some (.ref 26), some (.int a1), some (.int a2), some (.int (a3 ||| ((1 : Int32) <<< (a4 &&& 31)))), some (.int (a4 + (1 : Int32)))] [] h (q_RI K)))) : FW g mX0_whoIsAt 5 [some (.ref 26), some (.int a1), some (.int a2), some (.int a3), some (.int a4)] [] h (q_RI K) := by
  refine QW.iload dX0_whoIsAt_5 rfl ?_
  refine QW.iload_n dX0_whoIsAt_7 rfl ?_
  refine QW.icmp_ge 35 dX0_whoIsAt_8 rfl (fun hc => ?_) (fun hc => ?_)
  · replace vc := vc.1 hc
    refine QW.iload_n dX0_whoIsAt_35 rfl ?_
    exact FW.ret dX0_whoIsAt_36 rfl vc
  · replace vc := vc.2 hc
    refine QW.aload_n dX0_whoIsAt_11 rfl ?_
    refine FW.getR dX0_whoIsAt_12 lfX0_15 sR_26_4 ?_
    refine QW.iload dX0_whoIsAt_15 rfl ?_
    refine FW.iald (h 27 a4.toNatClampNeg) dX0_whoIsAt_17 sA_27 vc.1 rfl ?_
    replace vc := vc.2
    refine QW.iload_n dX0_whoIsAt_18 rfl ?_
    refine QW.icmp_ne 29 dX0_whoIsAt_19 rfl (fun hc => ?_) (fun hc => ?_)
    · replace vc := vc.1 hc
      refine QW.iinc (a4 + (1 : Int32)) [some (.ref 26), some (.int a1), some (.int a2), some (.int a3), some (.int (a4 + (1 : Int32)))] dX0_whoIsAt_29 rfl rfl (by decide) rfl rfl ?_
      refine QW.goto 5 dX0_whoIsAt_32 rfl ?_
      exact vc
    · replace vc := vc.2 hc
      refine QW.iload_n dX0_whoIsAt_22 rfl ?_
      refine QW.iconst (1 : Int32) rfl dX0_whoIsAt_23 ?_
      refine QW.iload dX0_whoIsAt_24 rfl ?_
      refine QW.ishl dX0_whoIsAt_26 ?_
      refine QW.ior dX0_whoIsAt_27 ?_
      refine QW.istore_n [some (.ref 26), some (.int a1), some (.int a2), some (.int (a3 ||| ((1 : Int32) <<< (a4 &&& 31)))), some (.int a4)] dX0_whoIsAt_28 (by decide) rfl rfl ?_
      refine QW.iinc (a4 + (1 : Int32)) [some (.ref 26), some (.int a1), some (.int a2), some (.int (a3 ||| ((1 : Int32) <<< (a4 &&& 31)))), some (.int (a4 + (1 : Int32)))] dX0_whoIsAt_29 rfl rfl (by decide) rfl rfl ?_
      refine QW.goto 5 dX0_whoIsAt_32 rfl ?_
      exact vc
theorem vX6_hasGuest_0 {g : QG} {K : Int32 → Hp → Prop} {h : Hp} {a1 : Int32} (vc : (a1 < 0 → K (0 : Int32) h) ∧ (¬ a1 < 0 → ((h 1 2) ≤ a1 → K (0 : Int32) h) ∧ (¬ (h 1 2) ≤ a1 → K (1 : Int32) h))) : FW g mX6_hasGuest 0 [some (.ref 1), some (.int a1)] [] h (q_RI K) := by
  refine QW.iload_n dX6_hasGuest_0 rfl ?_
  refine QW.if_lt 16 dX6_hasGuest_1 rfl (fun hc => ?_) (fun hc => ?_)
  · replace vc := vc.1 hc
    refine QW.iconst (0 : Int32) rfl dX6_hasGuest_16 ?_
    exact FW.retZ (Or.inl rfl) dX6_hasGuest_17 rfl vc
  · replace vc := vc.2 hc
    refine QW.iload_n dX6_hasGuest_4 rfl ?_
    refine QW.aload_n dX6_hasGuest_5 rfl ?_
    refine FW.getI (h 1 2) dX6_hasGuest_6 lfX6_34 sI_1_2 rfl ?_
    refine QW.icmp_ge 16 dX6_hasGuest_9 rfl (fun hc => ?_) (fun hc => ?_)
    · replace vc := vc.1 hc
      refine QW.iconst (0 : Int32) rfl dX6_hasGuest_16 ?_
      exact FW.retZ (Or.inl rfl) dX6_hasGuest_17 rfl vc
    · replace vc := vc.2 hc
      refine QW.iconst (1 : Int32) rfl dX6_hasGuest_12 ?_
      refine QW.goto 17 dX6_hasGuest_13 rfl ?_
      exact FW.retZ (Or.inr rfl) dX6_hasGuest_17 rfl vc
theorem vX6_isA_0 {g : QG} {K : Int32 → Hp → Prop} {h : Hp} {a1 a2 : Int32} (vc : (a2 = (0 : Int32) → K (1 : Int32) h) ∧ (¬ a2 = (0 : Int32) → (a2 = (1 : Int32) → vp_in a1 6 ∧ ((h 2 a1.toNatClampNeg) = (3 : Int32) → K (0 : Int32) h) ∧ (¬ (h 2 a1.toNatClampNeg) = (3 : Int32) → K (1 : Int32) h)) ∧ (¬ a2 = (1 : Int32) → (a2 = (2 : Int32) → vp_in a1 6 ∧ (¬ (h 2 a1.toNatClampNeg) = (1 : Int32) → K (0 : Int32) h) ∧ ((h 2 a1.toNatClampNeg) = (1 : Int32) → K (1 : Int32) h)) ∧ (¬ a2 = (2 : Int32) → (a2 = (3 : Int32) → vp_in a1 6 ∧ (¬ (h 2 a1.toNatClampNeg) = (2 : Int32) → K (0 : Int32) h) ∧ ((h 2 a1.toNatClampNeg) = (2 : Int32) → K (1 : Int32) h)) ∧ (¬ a2 = (3 : Int32) → vp_in a1 6 ∧ (¬ (h 2 a1.toNatClampNeg) = (3 : Int32) → K (0 : Int32) h) ∧ ((h 2 a1.toNatClampNeg) = (3 : Int32) → K (1 : Int32) h)))))) : FW g mX6_isA 0 [some (.ref 1), some (.int a1), some (.int a2)] [] h (q_RI K) := by
  refine QW.iload_n dX6_isA_0 rfl ?_
  by_cases c0 : a2 = (0 : Int32)
  · replace vc := vc.1 c0
    refine QW.tabIn 32 dX6_isA_1 (by rw [c0]; decide) (by rw [c0]; decide) (by rw [c0]; rfl) rfl ?_
    refine QW.iconst (1 : Int32) rfl dX6_isA_32 ?_
    exact FW.retZ (Or.inr rfl) dX6_isA_33 rfl vc
  · replace vc := vc.2 c0
    by_cases c1 : a2 = (1 : Int32)
    · replace vc := vc.1 c1
      refine QW.tabIn 34 dX6_isA_1 (by rw [c1]; decide) (by rw [c1]; decide) (by rw [c1]; rfl) rfl ?_
      refine QW.aload_n dX6_isA_34 rfl ?_
      refine FW.getR dX6_isA_35 lfX6_15 sR_1_3 ?_
      refine QW.iload_n dX6_isA_38 rfl ?_
      refine FW.iald (h 2 a1.toNatClampNeg) dX6_isA_39 sA_2 vc.1 rfl ?_
      replace vc := vc.2
      refine QW.iconst (3 : Int32) rfl dX6_isA_40 ?_
      refine QW.icmp_eq 48 dX6_isA_41 rfl (fun hc => ?_) (fun hc => ?_)
      · replace vc := vc.1 hc
        refine QW.iconst (0 : Int32) rfl dX6_isA_48 ?_
        exact FW.retZ (Or.inl rfl) dX6_isA_49 rfl vc
      · replace vc := vc.2 hc
        refine QW.iconst (1 : Int32) rfl dX6_isA_44 ?_
        refine QW.goto 49 dX6_isA_45 rfl ?_
        exact FW.retZ (Or.inr rfl) dX6_isA_49 rfl vc
    · replace vc := vc.2 c1
      by_cases c2 : a2 = (2 : Int32)
      · replace vc := vc.1 c2
        refine QW.tabIn 50 dX6_isA_1 (by rw [c2]; decide) (by rw [c2]; decide) (by rw [c2]; rfl) rfl ?_
        refine QW.aload_n dX6_isA_50 rfl ?_
        refine FW.getR dX6_isA_51 lfX6_15 sR_1_3 ?_
        refine QW.iload_n dX6_isA_54 rfl ?_
        refine FW.iald (h 2 a1.toNatClampNeg) dX6_isA_55 sA_2 vc.1 rfl ?_
        replace vc := vc.2
        refine QW.iconst (1 : Int32) rfl dX6_isA_56 ?_
        refine QW.icmp_ne 64 dX6_isA_57 rfl (fun hc => ?_) (fun hc => ?_)
        · replace vc := vc.1 hc
          refine QW.iconst (0 : Int32) rfl dX6_isA_64 ?_
          exact FW.retZ (Or.inl rfl) dX6_isA_65 rfl vc
        · replace vc := vc.2 hc
          refine QW.iconst (1 : Int32) rfl dX6_isA_60 ?_
          refine QW.goto 65 dX6_isA_61 rfl ?_
          exact FW.retZ (Or.inr rfl) dX6_isA_65 rfl vc
      · replace vc := vc.2 c2
        by_cases c3 : a2 = (3 : Int32)
        · replace vc := vc.1 c3
          refine QW.tabIn 66 dX6_isA_1 (by rw [c3]; decide) (by rw [c3]; decide) (by rw [c3]; rfl) rfl ?_
          refine QW.aload_n dX6_isA_66 rfl ?_
          refine FW.getR dX6_isA_67 lfX6_15 sR_1_3 ?_
          refine QW.iload_n dX6_isA_70 rfl ?_
          refine FW.iald (h 2 a1.toNatClampNeg) dX6_isA_71 sA_2 vc.1 rfl ?_
          replace vc := vc.2
          refine QW.iconst (2 : Int32) rfl dX6_isA_72 ?_
          refine QW.icmp_ne 80 dX6_isA_73 rfl (fun hc => ?_) (fun hc => ?_)
          · replace vc := vc.1 hc
            refine QW.iconst (0 : Int32) rfl dX6_isA_80 ?_
            exact FW.retZ (Or.inl rfl) dX6_isA_81 rfl vc
          · replace vc := vc.2 hc
            refine QW.iconst (1 : Int32) rfl dX6_isA_76 ?_
            refine QW.goto 81 dX6_isA_77 rfl ?_
            exact FW.retZ (Or.inr rfl) dX6_isA_81 rfl vc
        · replace vc := vc.2 c3
          refine QW.tabOut 82 dX6_isA_1 (by have n0 := lv_neT c0 (a := 0) (by decide); have n1 := lv_neT c1 (a := 1) (by decide); have n2 := lv_neT c2 (a := 2) (by decide); have n3 := lv_neT c3 (a := 3) (by decide); omega) rfl ?_
          refine QW.aload_n dX6_isA_82 rfl ?_
          refine FW.getR dX6_isA_83 lfX6_15 sR_1_3 ?_
          refine QW.iload_n dX6_isA_86 rfl ?_
          refine FW.iald (h 2 a1.toNatClampNeg) dX6_isA_87 sA_2 vc.1 rfl ?_
          replace vc := vc.2
          refine QW.iconst (3 : Int32) rfl dX6_isA_88 ?_
          refine QW.icmp_ne 96 dX6_isA_89 rfl (fun hc => ?_) (fun hc => ?_)
          · replace vc := vc.1 hc
            refine QW.iconst (0 : Int32) rfl dX6_isA_96 ?_
            exact FW.retZ (Or.inl rfl) dX6_isA_97 rfl vc
          · replace vc := vc.2 hc
            refine QW.iconst (1 : Int32) rfl dX6_isA_92 ?_
            refine QW.goto 97 dX6_isA_93 rfl ?_
            exact FW.retZ (Or.inr rfl) dX6_isA_97 rfl vc
theorem vX6_ease_0 {g : QG} {K : Int32 → Hp → Prop} {h : Hp} {a1 : Int32} (vc : vp_in a1 6 ∧ (¬ (h 2 a1.toNatClampNeg) = (1 : Int32) → K (0 : Int32) h) ∧ ((h 2 a1.toNatClampNeg) = (1 : Int32) → K (1 : Int32) h)) : FW g mX6_ease 0 [some (.ref 1), some (.int a1)] [] h (q_RI K) := by
  refine QW.aload_n dX6_ease_0 rfl ?_
  refine FW.getR dX6_ease_1 lfX6_15 sR_1_3 ?_
  refine QW.iload_n dX6_ease_4 rfl ?_
  refine FW.iald (h 2 a1.toNatClampNeg) dX6_ease_5 sA_2 vc.1 rfl ?_
  replace vc := vc.2
  refine QW.iconst (1 : Int32) rfl dX6_ease_6 ?_
  refine QW.icmp_ne 14 dX6_ease_7 rfl (fun hc => ?_) (fun hc => ?_)
  · replace vc := vc.1 hc
    refine QW.iconst (0 : Int32) rfl dX6_ease_14 ?_
    exact FW.ret dX6_ease_15 rfl vc
  · replace vc := vc.2 hc
    refine QW.iconst (1 : Int32) rfl dX6_ease_10 ?_
    refine QW.goto 15 dX6_ease_11 rfl ?_
    exact FW.ret dX6_ease_15 rfl vc
theorem vX8_has_0 {g : QG} {K : Int32 → Hp → Prop} {h : Hp} {a0 a1 : Int32} (vc : (¬ ((a0 >>> (a1 &&& 31)) &&& (1 : Int32)) = (1 : Int32) → K (0 : Int32) h) ∧ (((a0 >>> (a1 &&& 31)) &&& (1 : Int32)) = (1 : Int32) → K (1 : Int32) h)) : FW g mX8_has 0 [some (.int a0), some (.int a1)] [] h (q_RI K) := by
  refine QW.iload_n dX8_has_0 rfl ?_
  refine QW.iload_n dX8_has_1 rfl ?_
  refine QW.ishr dX8_has_2 ?_
  refine QW.iconst (1 : Int32) rfl dX8_has_3 ?_
  refine QW.iand dX8_has_4 ?_
  refine QW.iconst (1 : Int32) rfl dX8_has_5 ?_
  refine QW.icmp_ne 13 dX8_has_6 rfl (fun hc => ?_) (fun hc => ?_)
  · replace vc := vc.1 hc
    refine QW.iconst (0 : Int32) rfl dX8_has_13 ?_
    exact FW.retZ (Or.inl rfl) dX8_has_14 rfl vc
  · replace vc := vc.2 hc
    refine QW.iconst (1 : Int32) rfl dX8_has_9 ?_
    refine QW.goto 14 dX8_has_10 rfl ?_
    exact FW.retZ (Or.inr rfl) dX8_has_14 rfl vc
theorem vX8_walked_0 {g : QG} {K : Int32 → Hp → Prop} {h : Hp} {a1 a2 a3 a4 : Int32} (vc : (¬ (h 44 6) = 0) ∧ (¬ a3 = 0 → (¬ (h 44 6) = 0) ∧ K (((a1 + (h 44 6)) - ((a2 * a4) - (a2 * a4) / (h 44 6) * (h 44 6))) - ((a1 + (h 44 6)) - ((a2 * a4) - (a2 * a4) / (h 44 6) * (h 44 6))) / (h 44 6) * (h 44 6)) h) ∧ (a3 = 0 → (¬ (h 44 6) = 0) ∧ K ((a1 + ((a2 * a4) - (a2 * a4) / (h 44 6) * (h 44 6))) - (a1 + ((a2 * a4) - (a2 * a4) / (h 44 6) * (h 44 6))) / (h 44 6) * (h 44 6)) h)) : FW g mX8_walked 0 [some (.ref 44), some (.int a1), some (.int a2), some (.int a3), some (.int a4), none] [] h (q_RI K) := by
  refine QW.iload_n dX8_walked_0 rfl ?_
  refine QW.iload dX8_walked_1 rfl ?_
  refine QW.imul dX8_walked_3 ?_
  refine QW.aload_n dX8_walked_4 rfl ?_
  refine FW.getI (h 44 6) dX8_walked_5 lfX8_23 sI_44_6 rfl ?_
  refine QW.irem vc.1 dX8_walked_8 ?_
  replace vc := vc.2
  refine QW.istore [some (.ref 44), some (.int a1), some (.int a2), some (.int a3), some (.int a4), some (.int ((a2 * a4) - (a2 * a4) / (h 44 6) * (h 44 6)))] dX8_walked_9 (by decide) rfl rfl ?_
  refine QW.iload_n dX8_walked_11 rfl ?_
  refine QW.if_ne 27 dX8_walked_12 rfl (fun hc => ?_) (fun hc => ?_)
  · replace vc := vc.1 hc
    refine QW.iload_n dX8_walked_27 rfl ?_
    refine QW.aload_n dX8_walked_28 rfl ?_
    refine FW.getI (h 44 6) dX8_walked_29 lfX8_23 sI_44_6 rfl ?_
    refine QW.iadd dX8_walked_32 ?_
    refine QW.iload dX8_walked_33 rfl ?_
    refine QW.isub dX8_walked_35 ?_
    refine QW.aload_n dX8_walked_36 rfl ?_
    refine FW.getI (h 44 6) dX8_walked_37 lfX8_23 sI_44_6 rfl ?_
    refine QW.irem vc.1 dX8_walked_40 ?_
    replace vc := vc.2
    exact FW.ret dX8_walked_41 rfl vc
  · replace vc := vc.2 hc
    refine QW.iload_n dX8_walked_15 rfl ?_
    refine QW.iload dX8_walked_16 rfl ?_
    refine QW.iadd dX8_walked_18 ?_
    refine QW.aload_n dX8_walked_19 rfl ?_
    refine FW.getI (h 44 6) dX8_walked_20 lfX8_23 sI_44_6 rfl ?_
    refine QW.irem vc.1 dX8_walked_23 ?_
    replace vc := vc.2
    refine QW.goto 41 dX8_walked_24 rfl ?_
    exact FW.ret dX8_walked_41 rfl vc
theorem vX6_everyone_0 {g : QG} {K : Int32 → Hp → Prop} {h : Hp} (vc : K (((1 : Int32) <<< ((h 1 2) &&& 31)) - (1 : Int32)) h) : FW g mX6_everyone 0 [some (.ref 1)] [] h (q_RI K) := by
  refine QW.iconst (1 : Int32) rfl dX6_everyone_0 ?_
  refine QW.aload_n dX6_everyone_1 rfl ?_
  refine FW.getI (h 1 2) dX6_everyone_2 lfX6_34 sI_1_2 rfl ?_
  refine QW.ishl dX6_everyone_5 ?_
  refine QW.iconst (1 : Int32) rfl dX6_everyone_6 ?_
  refine QW.isub dX6_everyone_7 ?_
  exact FW.ret dX6_everyone_8 rfl vc
theorem vX8_everybody_0 {g : QG} {K : Int32 → Hp → Prop} {h : Hp} (vc : K (((1 : Int32) <<< ((h 44 13) &&& 31)) - (1 : Int32)) h) : FW g mX8_everybody 0 [some (.ref 44)] [] h (q_RI K) := by
  refine QW.iconst (1 : Int32) rfl dX8_everybody_0 ?_
  refine QW.aload_n dX8_everybody_1 rfl ?_
  refine FW.getI (h 44 13) dX8_everybody_2 lfX8_74 sI_44_13 rfl ?_
  refine QW.ishl dX8_everybody_5 ?_
  refine QW.iconst (1 : Int32) rfl dX8_everybody_6 ?_
  refine QW.isub dX8_everybody_7 ?_
  exact FW.ret dX8_everybody_8 rfl vc
theorem vX8_bits_0 {g : QG} {K : Int32 → Hp → Prop} {h : Hp} {a0 : Int32} (vc : FW g mX8_bits 4 [some (.int a0), some (.int (0 : Int32)), some (.int (0 : Int32))] [] h (q_RI K)) : FW g mX8_bits 0 [some (.int a0), none, none] [] h (q_RI K) := by
  refine QW.iconst (0 : Int32) rfl dX8_bits_0 ?_
  refine QW.istore_n [some (.int a0), some (.int (0 : Int32)), none] dX8_bits_1 (by decide) rfl rfl ?_
  refine QW.iconst (0 : Int32) rfl dX8_bits_2 ?_
  refine QW.istore_n [some (.int a0), some (.int (0 : Int32)), some (.int (0 : Int32))] dX8_bits_3 (by decide) rfl rfl ?_
  exact vc
theorem vX8_bits_4 {g : QG} {K : Int32 → Hp → Prop} {h : Hp} {a0 a1 a2 : Int32} (vc : ((12 : Int32) ≤ a2 → K a1 h) ∧ (¬ (12 : Int32) ≤ a2 → FW g mX8_bits 4 [some (.int a0), some (.int (a1 + ((a0 >>> (a2 &&& 31)) &&& (1 : Int32)))), some (.int (a2 + (1 : Int32)))] [] h (q_RI K))) : FW g mX8_bits 4 [some (.int a0), some (.int a1), some (.int a2)] [] h (q_RI K) := by
  refine QW.iload_n dX8_bits_4 rfl ?_
  refine QW.bipush (12 : Int32) rfl dX8_bits_5 ?_
  refine QW.icmp_ge 24 dX8_bits_7 rfl (fun hc => ?_) (fun hc => ?_)
  · replace vc := vc.1 hc
    refine QW.iload_n dX8_bits_24 rfl ?_
    exact FW.ret dX8_bits_25 rfl vc
  · replace vc := vc.2 hc
    refine QW.iload_n dX8_bits_10 rfl ?_
    refine QW.iload_n dX8_bits_11 rfl ?_
    refine QW.iload_n dX8_bits_12 rfl ?_
    refine QW.ishr dX8_bits_13 ?_
    refine QW.iconst (1 : Int32) rfl dX8_bits_14 ?_
    refine QW.iand dX8_bits_15 ?_
    refine QW.iadd dX8_bits_16 ?_
    refine QW.istore_n [some (.int a0), some (.int (a1 + ((a0 >>> (a2 &&& 31)) &&& (1 : Int32)))), some (.int a2)] dX8_bits_17 (by decide) rfl rfl ?_
    refine QW.iinc (a2 + (1 : Int32)) [some (.int a0), some (.int (a1 + ((a0 >>> (a2 &&& 31)) &&& (1 : Int32)))), some (.int (a2 + (1 : Int32)))] dX8_bits_18 rfl rfl (by decide) rfl rfl ?_
    refine QW.goto 4 dX8_bits_21 rfl ?_
    exact vc
theorem vX7_isEither_0 {g : QG} {K : Int32 → Hp → Prop} {h : Hp} {a0 : Int32} (vc : (a0 = 0 → K (1 : Int32) h) ∧ (¬ a0 = 0 → (¬ a0 = (1 : Int32) → K (0 : Int32) h) ∧ (a0 = (1 : Int32) → K (1 : Int32) h))) : FW g mX7_isEither 0 [some (.int a0)] [] h (q_RI K) := by
  refine QW.iload_n dX7_isEither_0 rfl ?_
  refine QW.if_eq 9 dX7_isEither_1 rfl (fun hc => ?_) (fun hc => ?_)
  · replace vc := vc.1 hc
    refine QW.iconst (1 : Int32) rfl dX7_isEither_9 ?_
    refine QW.goto 14 dX7_isEither_10 rfl ?_
    exact FW.retZ (Or.inr rfl) dX7_isEither_14 rfl vc
  · replace vc := vc.2 hc
    refine QW.iload_n dX7_isEither_4 rfl ?_
    refine QW.iconst (1 : Int32) rfl dX7_isEither_5 ?_
    refine QW.icmp_ne 13 dX7_isEither_6 rfl (fun hc => ?_) (fun hc => ?_)
    · replace vc := vc.1 hc
      refine QW.iconst (0 : Int32) rfl dX7_isEither_13 ?_
      exact FW.retZ (Or.inl rfl) dX7_isEither_14 rfl vc
    · replace vc := vc.2 hc
      refine QW.iconst (1 : Int32) rfl dX7_isEither_9 ?_
      refine QW.goto 14 dX7_isEither_10 rfl ?_
      exact FW.retZ (Or.inr rfl) dX7_isEither_14 rfl vc
theorem vX8_copy_0 {g : QG} {K : Hp → Prop} {h : Hp} {a1 a2 : Int32} (vc : FW g mX8_copy 2 [some (.ref 44), some (.int a1), some (.int a2), some (.int (0 : Int32))] [] h (q_RV K)) : FW g mX8_copy 0 [some (.ref 44), some (.int a1), some (.int a2), none] [] h (q_RV K) := by
  refine QW.iconst (0 : Int32) rfl dX8_copy_0 ?_
  refine QW.istore_n [some (.ref 44), some (.int a1), some (.int a2), some (.int (0 : Int32))] dX8_copy_1 (by decide) rfl rfl ?_
  exact vc
theorem vX8_copy_2 {g : QG} {K : Hp → Prop} {h : Hp} {a1 a2 a3 : Int32} (vc : ((27 : Int32) ≤ a3 → K h) ∧ (¬ (27 : Int32) ≤ a3 → vp_in (((27 : Int32) * a1) + a3) 81 ∧ vp_in (((27 : Int32) * a2) + a3) 81 ∧ FW g mX8_copy 2 [some (.ref 44), some (.int a1), some (.int a2), some (.int (a3 + (1 : Int32)))] [] (q_up h 45 ((((27 : Int32) * a2) + a3).toNatClampNeg) (h 45 ((((27 : Int32) * a1) + a3).toNatClampNeg))) (q_RV K))) : FW g mX8_copy 2 [some (.ref 44), some (.int a1), some (.int a2), some (.int a3)] [] h (q_RV K) := by
  refine QW.iload_n dX8_copy_2 rfl ?_
  refine QW.bipush (27 : Int32) rfl dX8_copy_3 ?_
  refine QW.icmp_ge 36 dX8_copy_5 rfl (fun hc => ?_) (fun hc => ?_)
  · replace vc := vc.1 hc
    exact FW.retV dX8_copy_36 rfl vc
  · replace vc := vc.2 hc
    refine QW.aload_n dX8_copy_8 rfl ?_
    refine FW.getR dX8_copy_9 lfX8_7 sR_44_0 ?_
    refine QW.bipush (27 : Int32) rfl dX8_copy_12 ?_
    refine QW.iload_n dX8_copy_14 rfl ?_
    refine QW.imul dX8_copy_15 ?_
    refine QW.iload_n dX8_copy_16 rfl ?_
    refine QW.iadd dX8_copy_17 ?_
    refine QW.aload_n dX8_copy_18 rfl ?_
    refine FW.getR dX8_copy_19 lfX8_7 sR_44_0 ?_
    refine QW.bipush (27 : Int32) rfl dX8_copy_22 ?_
    refine QW.iload_n dX8_copy_24 rfl ?_
    refine QW.imul dX8_copy_25 ?_
    refine QW.iload_n dX8_copy_26 rfl ?_
    refine QW.iadd dX8_copy_27 ?_
    refine FW.iald (h 45 ((((27 : Int32) * a1) + a3).toNatClampNeg)) dX8_copy_28 sA_45 vc.1 rfl ?_
    replace vc := vc.2
    refine FW.iast dX8_copy_29 sA_45 vc.1 ?_
    replace vc := vc.2
    refine QW.iinc (a3 + (1 : Int32)) [some (.ref 44), some (.int a1), some (.int a2), some (.int (a3 + (1 : Int32)))] dX8_copy_30 rfl rfl (by decide) rfl rfl ?_
    refine QW.goto 2 dX8_copy_33 rfl ?_
    exact vc
theorem vX7_isMinute_0 {g : QG} {K : Int32 → Hp → Prop} {h : Hp} {a0 : Int32} (vc : (a0 < 0 → K (0 : Int32) h) ∧ (¬ a0 < 0 → ((99 : Int32) < a0 → K (0 : Int32) h) ∧ (¬ (99 : Int32) < a0 → K (1 : Int32) h))) : FW g mX7_isMinute 0 [some (.int a0)] [] h (q_RI K) := by
  refine QW.iload_n dX7_isMinute_0 rfl ?_
  refine QW.if_lt 14 dX7_isMinute_1 rfl (fun hc => ?_) (fun hc => ?_)
  · replace vc := vc.1 hc
    refine QW.iconst (0 : Int32) rfl dX7_isMinute_14 ?_
    exact FW.retZ (Or.inl rfl) dX7_isMinute_15 rfl vc
  · replace vc := vc.2 hc
    refine QW.iload_n dX7_isMinute_4 rfl ?_
    refine QW.bipush (99 : Int32) rfl dX7_isMinute_5 ?_
    refine QW.icmp_gt 14 dX7_isMinute_7 rfl (fun hc => ?_) (fun hc => ?_)
    · replace vc := vc.1 hc
      refine QW.iconst (0 : Int32) rfl dX7_isMinute_14 ?_
      exact FW.retZ (Or.inl rfl) dX7_isMinute_15 rfl vc
    · replace vc := vc.2 hc
      refine QW.iconst (1 : Int32) rfl dX7_isMinute_10 ?_
      refine QW.goto 15 dX7_isMinute_11 rfl ?_
      exact FW.retZ (Or.inr rfl) dX7_isMinute_15 rfl vc
theorem vX7_commonDivisor_0 {g : QG} {K : Int32 → Hp → Prop} {h : Hp} {a0 a1 : Int32} (vc : FW g mX7_commonDivisor 7 [none, none, some (.int a0), some (.int a1), some (.int (0 : Int32)), none] [] h (q_RI K)) : FW g mX7_commonDivisor 0 [some (.int a0), some (.int a1), none, none, none, none] [] h (q_RI K) := by
  refine QW.iload_n dX7_commonDivisor_0 rfl ?_
  refine QW.istore_n [some (.int a0), some (.int a1), some (.int a0), none, none, none] dX7_commonDivisor_1 (by decide) rfl rfl ?_
  refine QW.iload_n dX7_commonDivisor_2 rfl ?_
  refine QW.istore_n [some (.int a0), some (.int a1), some (.int a0), some (.int a1), none, none] dX7_commonDivisor_3 (by decide) rfl rfl ?_
  refine QW.iconst (0 : Int32) rfl dX7_commonDivisor_4 ?_
  refine QW.istore [some (.int a0), some (.int a1), some (.int a0), some (.int a1), some (.int (0 : Int32)), none] dX7_commonDivisor_5 (by decide) rfl rfl ?_
  exact QW.sub (by exact ⟨rfl, ⟨rfl, ⟨rfl, trivial⟩⟩⟩) vc
theorem vX7_commonDivisor_7 {g : QG} {K : Int32 → Hp → Prop} {h : Hp} {a2 a3 a4 : Int32} (vc : ((64 : Int32) ≤ a4 → K a2 h) ∧ (¬ (64 : Int32) ≤ a4 → (a3 = 0 → K a2 h) ∧ (¬ a3 = 0 → (¬ a3 = 0) ∧ FW g mX7_commonDivisor 7 [none, none, some (.int a3), some (.int (a2 - a2 / a3 * a3)), some (.int (a4 + (1 : Int32))), none] [] h (q_RI K)))) : FW g mX7_commonDivisor 7 [none, none, some (.int a2), some (.int a3), some (.int a4), none] [] h (q_RI K) := by
  refine QW.iload dX7_commonDivisor_7 rfl ?_
  refine QW.bipush (64 : Int32) rfl dX7_commonDivisor_9 ?_
  refine QW.icmp_ge 34 dX7_commonDivisor_11 rfl (fun hc => ?_) (fun hc => ?_)
  · replace vc := vc.1 hc
    refine QW.iload_n dX7_commonDivisor_34 rfl ?_
    exact FW.ret dX7_commonDivisor_35 rfl vc
  · replace vc := vc.2 hc
    refine QW.iload_n dX7_commonDivisor_14 rfl ?_
    refine QW.if_eq 34 dX7_commonDivisor_15 rfl (fun hc => ?_) (fun hc => ?_)
    · replace vc := vc.1 hc
      refine QW.iload_n dX7_commonDivisor_34 rfl ?_
      exact FW.ret dX7_commonDivisor_35 rfl vc
    · replace vc := vc.2 hc
      refine QW.iload_n dX7_commonDivisor_18 rfl ?_
      refine QW.iload_n dX7_commonDivisor_19 rfl ?_
      refine QW.irem vc.1 dX7_commonDivisor_20 ?_
      replace vc := vc.2
      refine QW.istore [none, none, some (.int a2), some (.int a3), some (.int a4), some (.int (a2 - a2 / a3 * a3))] dX7_commonDivisor_21 (by decide) rfl rfl ?_
      refine QW.iload_n dX7_commonDivisor_23 rfl ?_
      refine QW.istore_n [none, none, some (.int a3), some (.int a3), some (.int a4), some (.int (a2 - a2 / a3 * a3))] dX7_commonDivisor_24 (by decide) rfl rfl ?_
      refine QW.iload dX7_commonDivisor_25 rfl ?_
      refine QW.istore_n [none, none, some (.int a3), some (.int (a2 - a2 / a3 * a3)), some (.int a4), some (.int (a2 - a2 / a3 * a3))] dX7_commonDivisor_27 (by decide) rfl rfl ?_
      refine QW.iinc (a4 + (1 : Int32)) [none, none, some (.int a3), some (.int (a2 - a2 / a3 * a3)), some (.int (a4 + (1 : Int32))), some (.int (a2 - a2 / a3 * a3))] dX7_commonDivisor_28 rfl rfl (by decide) rfl rfl ?_
      refine QW.goto 7 dX7_commonDivisor_31 rfl ?_
      exact QW.sub (by exact ⟨rfl, ⟨rfl, ⟨rfl, trivial⟩⟩⟩) vc
theorem vX8_savePaces_0 {g : QG} {K : Hp → Prop} {h : Hp} (vc : FW g mX8_savePaces 2 [some (.ref 44), some (.int (0 : Int32))] [] h (q_RV K)) : FW g mX8_savePaces 0 [some (.ref 44), none] [] h (q_RV K) := by
  refine QW.iconst (0 : Int32) rfl dX8_savePaces_0 ?_
  refine QW.istore_n [some (.ref 44), some (.int (0 : Int32))] dX8_savePaces_1 (by decide) rfl rfl ?_
  exact vc
theorem vX8_savePaces_2 {g : QG} {K : Hp → Prop} {h : Hp} {a1 : Int32} (vc : ((h 44 13) ≤ a1 → K h) ∧ (¬ (h 44 13) ≤ a1 → vp_in a1 6 ∧ vp_in a1 6 ∧ FW g mX8_savePaces 2 [some (.ref 44), some (.int (a1 + (1 : Int32)))] [] (q_up h 57 a1.toNatClampNeg (h 51 a1.toNatClampNeg)) (q_RV K))) : FW g mX8_savePaces 2 [some (.ref 44), some (.int a1)] [] h (q_RV K) := by
  refine QW.iload_n dX8_savePaces_2 rfl ?_
  refine QW.aload_n dX8_savePaces_3 rfl ?_
  refine FW.getI (h 44 13) dX8_savePaces_4 lfX8_74 sI_44_13 rfl ?_
  refine QW.icmp_ge 28 dX8_savePaces_7 rfl (fun hc => ?_) (fun hc => ?_)
  · replace vc := vc.1 hc
    exact FW.retV dX8_savePaces_28 rfl vc
  · replace vc := vc.2 hc
    refine QW.aload_n dX8_savePaces_10 rfl ?_
    refine FW.getR dX8_savePaces_11 lfX8_51 sR_44_26 ?_
    refine QW.iload_n dX8_savePaces_14 rfl ?_
    refine QW.aload_n dX8_savePaces_15 rfl ?_
    refine FW.getR dX8_savePaces_16 lfX8_33 sR_44_10 ?_
    refine QW.iload_n dX8_savePaces_19 rfl ?_
    refine FW.iald (h 51 a1.toNatClampNeg) dX8_savePaces_20 sA_51 vc.1 rfl ?_
    replace vc := vc.2
    refine FW.iast dX8_savePaces_21 sA_57 vc.1 ?_
    replace vc := vc.2
    refine QW.iinc (a1 + (1 : Int32)) [some (.ref 44), some (.int (a1 + (1 : Int32)))] dX8_savePaces_22 rfl rfl (by decide) rfl rfl ?_
    refine QW.goto 2 dX8_savePaces_25 rfl ?_
    exact vc
theorem vX8_restorePaces_0 {g : QG} {K : Hp → Prop} {h : Hp} (vc : FW g mX8_restorePaces 2 [some (.ref 44), some (.int (0 : Int32))] [] h (q_RV K)) : FW g mX8_restorePaces 0 [some (.ref 44), none] [] h (q_RV K) := by
  refine QW.iconst (0 : Int32) rfl dX8_restorePaces_0 ?_
  refine QW.istore_n [some (.ref 44), some (.int (0 : Int32))] dX8_restorePaces_1 (by decide) rfl rfl ?_
  exact vc
theorem vX8_restorePaces_2 {g : QG} {K : Hp → Prop} {h : Hp} {a1 : Int32} (vc : ((h 44 13) ≤ a1 → K h) ∧ (¬ (h 44 13) ≤ a1 → vp_in a1 6 ∧ vp_in a1 6 ∧ FW g mX8_restorePaces 2 [some (.ref 44), some (.int (a1 + (1 : Int32)))] [] (q_up h 51 a1.toNatClampNeg (h 57 a1.toNatClampNeg)) (q_RV K))) : FW g mX8_restorePaces 2 [some (.ref 44), some (.int a1)] [] h (q_RV K) := by
  refine QW.iload_n dX8_restorePaces_2 rfl ?_
  refine QW.aload_n dX8_restorePaces_3 rfl ?_
  refine FW.getI (h 44 13) dX8_restorePaces_4 lfX8_74 sI_44_13 rfl ?_
  refine QW.icmp_ge 28 dX8_restorePaces_7 rfl (fun hc => ?_) (fun hc => ?_)
  · replace vc := vc.1 hc
    exact FW.retV dX8_restorePaces_28 rfl vc
  · replace vc := vc.2 hc
    refine QW.aload_n dX8_restorePaces_10 rfl ?_
    refine FW.getR dX8_restorePaces_11 lfX8_33 sR_44_10 ?_
    refine QW.iload_n dX8_restorePaces_14 rfl ?_
    refine QW.aload_n dX8_restorePaces_15 rfl ?_
    refine FW.getR dX8_restorePaces_16 lfX8_51 sR_44_26 ?_
    refine QW.iload_n dX8_restorePaces_19 rfl ?_
    refine FW.iald (h 57 a1.toNatClampNeg) dX8_restorePaces_20 sA_57 vc.1 rfl ?_
    replace vc := vc.2
    refine FW.iast dX8_restorePaces_21 sA_51 vc.1 ?_
    replace vc := vc.2
    refine QW.iinc (a1 + (1 : Int32)) [some (.ref 44), some (.int (a1 + (1 : Int32)))] dX8_restorePaces_22 rfl rfl (by decide) rfl rfl ?_
    refine QW.goto 2 dX8_restorePaces_25 rfl ?_
    exact vc
