theorem vX8_isStill_0 {g : QG} {K : Int32 → Hp → Prop} {h : Hp} {a1 : Int32} (vc : FW g mX8_isStill 4 [some (.ref 44), some (.int a1), some (.int (1 : Int32)), some (.int (0 : Int32))] [] h (q_RI K)) : FW g mX8_isStill 0 [some (.ref 44), some (.int a1), none, none] [] h (q_RI K) := by
  refine QW.iconst (1 : Int32) rfl dX8_isStill_0 ?_
  refine QW.istore_n [some (.ref 44), some (.int a1), some (.int (1 : Int32)), none] dX8_isStill_1 (by decide) rfl rfl ?_
  refine QW.iconst (0 : Int32) rfl dX8_isStill_2 ?_
  refine QW.istore_n [some (.ref 44), some (.int a1), some (.int (1 : Int32)), some (.int (0 : Int32))] dX8_isStill_3 (by decide) rfl rfl ?_
  exact vc
theorem vX8_isStill_4 {g : QG} {K : Int32 → Hp → Prop} {h : Hp} {a1 a2 a3 : Int32} (vc : ((h 44 13) ≤ a3 → q_bool a2 ∧ K a2 h) ∧ (¬ (h 44 13) ≤ a3 → (a2 = 0 → FW g mX8_isStill 4 [some (.ref 44), some (.int a1), some (.int (0 : Int32)), some (.int (a3 + (1 : Int32)))] [] h (q_RI K)) ∧ (¬ a2 = 0 → vp_in (((6 : Int32) * (a1 ^^^ ((1 : Int32) <<< (a3 &&& 31)))) + a3) 384 ∧ vp_in (((6 : Int32) * a1) + a3) 384 ∧ ((h 58 ((((6 : Int32) * (a1 ^^^ ((1 : Int32) <<< (a3 &&& 31)))) + a3).toNatClampNeg)) < (h 58 ((((6 : Int32) * a1) + a3).toNatClampNeg)) → FW g mX8_isStill 4 [some (.ref 44), some (.int a1), some (.int (0 : Int32)), some (.int (a3 + (1 : Int32)))] [] h (q_RI K)) ∧ (¬ (h 58 ((((6 : Int32) * (a1 ^^^ ((1 : Int32) <<< (a3 &&& 31)))) + a3).toNatClampNeg)) < (h 58 ((((6 : Int32) * a1) + a3).toNatClampNeg)) → FW g mX8_isStill 4 [some (.ref 44), some (.int a1), some (.int (1 : Int32)), some (.int (a3 + (1 : Int32)))] [] h (q_RI K))))) : FW g mX8_isStill 4 [some (.ref 44), some (.int a1), some (.int a2), some (.int a3)] [] h (q_RI K) := by
  refine QW.iload_n dX8_isStill_4 rfl ?_
  refine QW.aload_n dX8_isStill_5 rfl ?_
  refine FW.getI (h 44 13) dX8_isStill_6 lfX8_74 sI_44_13 rfl ?_
  refine QW.icmp_ge 57 dX8_isStill_9 rfl (fun hc => ?_) (fun hc => ?_)
  · replace vc := vc.1 hc
    refine QW.iload_n dX8_isStill_57 rfl ?_
    exact FW.retZ vc.1 dX8_isStill_58 rfl vc.2
  · replace vc := vc.2 hc
    refine QW.iload_n dX8_isStill_12 rfl ?_
    refine QW.if_eq 49 dX8_isStill_13 rfl (fun hc => ?_) (fun hc => ?_)
    · replace vc := vc.1 hc
      refine QW.iconst (0 : Int32) rfl dX8_isStill_49 ?_
      refine QW.istore_n [some (.ref 44), some (.int a1), some (.int (0 : Int32)), some (.int a3)] dX8_isStill_50 (by decide) rfl rfl ?_
      refine QW.iinc (a3 + (1 : Int32)) [some (.ref 44), some (.int a1), some (.int (0 : Int32)), some (.int (a3 + (1 : Int32)))] dX8_isStill_51 rfl rfl (by decide) rfl rfl ?_
      refine QW.goto 4 dX8_isStill_54 rfl ?_
      exact vc
    · replace vc := vc.2 hc
      refine QW.aload_n dX8_isStill_16 rfl ?_
      refine FW.getR dX8_isStill_17 lfX8_54 sR_44_27 ?_
      refine QW.bipush (6 : Int32) rfl dX8_isStill_20 ?_
      refine QW.iload_n dX8_isStill_22 rfl ?_
      refine QW.iconst (1 : Int32) rfl dX8_isStill_23 ?_
      refine QW.iload_n dX8_isStill_24 rfl ?_
      refine QW.ishl dX8_isStill_25 ?_
      refine QW.ixor dX8_isStill_26 ?_
      refine QW.imul dX8_isStill_27 ?_
      refine QW.iload_n dX8_isStill_28 rfl ?_
      refine QW.iadd dX8_isStill_29 ?_
      refine FW.iald (h 58 ((((6 : Int32) * (a1 ^^^ ((1 : Int32) <<< (a3 &&& 31)))) + a3).toNatClampNeg)) dX8_isStill_30 sA_58 vc.1 rfl ?_
      replace vc := vc.2
      refine QW.aload_n dX8_isStill_31 rfl ?_
      refine FW.getR dX8_isStill_32 lfX8_54 sR_44_27 ?_
      refine QW.bipush (6 : Int32) rfl dX8_isStill_35 ?_
      refine QW.iload_n dX8_isStill_37 rfl ?_
      refine QW.imul dX8_isStill_38 ?_
      refine QW.iload_n dX8_isStill_39 rfl ?_
      refine QW.iadd dX8_isStill_40 ?_
      refine FW.iald (h 58 ((((6 : Int32) * a1) + a3).toNatClampNeg)) dX8_isStill_41 sA_58 vc.1 rfl ?_
      replace vc := vc.2
      refine QW.icmp_lt 49 dX8_isStill_42 rfl (fun hc => ?_) (fun hc => ?_)
      · replace vc := vc.1 hc
        refine QW.iconst (0 : Int32) rfl dX8_isStill_49 ?_
        refine QW.istore_n [some (.ref 44), some (.int a1), some (.int (0 : Int32)), some (.int a3)] dX8_isStill_50 (by decide) rfl rfl ?_
        refine QW.iinc (a3 + (1 : Int32)) [some (.ref 44), some (.int a1), some (.int (0 : Int32)), some (.int (a3 + (1 : Int32)))] dX8_isStill_51 rfl rfl (by decide) rfl rfl ?_
        refine QW.goto 4 dX8_isStill_54 rfl ?_
        exact vc
      · replace vc := vc.2 hc
        refine QW.iconst (1 : Int32) rfl dX8_isStill_45 ?_
        refine QW.goto 50 dX8_isStill_46 rfl ?_
        refine QW.istore_n [some (.ref 44), some (.int a1), some (.int (1 : Int32)), some (.int a3)] dX8_isStill_50 (by decide) rfl rfl ?_
        refine QW.iinc (a3 + (1 : Int32)) [some (.ref 44), some (.int a1), some (.int (1 : Int32)), some (.int (a3 + (1 : Int32)))] dX8_isStill_51 rfl rfl (by decide) rfl rfl ?_
        refine QW.goto 4 dX8_isStill_54 rfl ?_
        exact vc
theorem vX7_holds_0 {g : QG} {K : Int32 → Hp → Prop} {h : Hp} {a0 a1 : Int32} (vc : (¬ ((a0 >>> (a1 &&& 31)) &&& (1 : Int32)) = (1 : Int32) → K (0 : Int32) h) ∧ (((a0 >>> (a1 &&& 31)) &&& (1 : Int32)) = (1 : Int32) → K (1 : Int32) h)) : FW g mX7_holds 0 [some (.int a0), some (.int a1)] [] h (q_RI K) := by
  refine QW.iload_n dX7_holds_0 rfl ?_
  refine QW.iload_n dX7_holds_1 rfl ?_
  refine QW.ishr dX7_holds_2 ?_
  refine QW.iconst (1 : Int32) rfl dX7_holds_3 ?_
  refine QW.iand dX7_holds_4 ?_
  refine QW.iconst (1 : Int32) rfl dX7_holds_5 ?_
  refine QW.icmp_ne 13 dX7_holds_6 rfl (fun hc => ?_) (fun hc => ?_)
  · replace vc := vc.1 hc
    refine QW.iconst (0 : Int32) rfl dX7_holds_13 ?_
    exact FW.retZ (Or.inl rfl) dX7_holds_14 rfl vc
  · replace vc := vc.2 hc
    refine QW.iconst (1 : Int32) rfl dX7_holds_9 ?_
    refine QW.goto 14 dX7_holds_10 rfl ?_
    exact FW.retZ (Or.inr rfl) dX7_holds_14 rfl vc
theorem vX8_leastOf_0 {g : QG} {K : Int32 → Hp → Prop} {h : Hp} {a0 : Int32} (vc : K (a0 &&& (-a0)) h) : FW g mX8_leastOf 0 [some (.int a0)] [] h (q_RI K) := by
  refine QW.iload_n dX8_leastOf_0 rfl ?_
  refine QW.iload_n dX8_leastOf_1 rfl ?_
  refine QW.ineg dX8_leastOf_2 ?_
  refine QW.iand dX8_leastOf_3 ?_
  exact FW.ret dX8_leastOf_4 rfl vc
theorem vX4_add_0 {g : QG} {K : Hp → Prop} {h : Hp} {a1 a2 : Int32} (vc : ((6 : Int32) ≤ (h 41 0) → K h) ∧ (¬ (6 : Int32) ≤ (h 41 0) → vp_in (h 41 0) 6 ∧ vp_in (h 41 0) 6 ∧ K (q_up (q_up (q_up h 42 ((h 41 0).toNatClampNeg) a1) 43 ((h 41 0).toNatClampNeg) a2) 41 0 ((h 41 0) + (1 : Int32))))) : FW g mX4_add 0 [some (.ref 41), some (.int a1), some (.int a2)] [] h (q_RV K) := by
  refine QW.aload_n dX4_add_0 rfl ?_
  refine FW.getI (h 41 0) dX4_add_1 lfX4_18 sI_41_0 rfl ?_
  refine QW.bipush (6 : Int32) rfl dX4_add_4 ?_
  refine QW.icmp_ge 39 dX4_add_6 rfl (fun hc => ?_) (fun hc => ?_)
  · replace vc := vc.1 hc
    exact FW.retV dX4_add_39 rfl vc
  · replace vc := vc.2 hc
    refine QW.aload_n dX4_add_9 rfl ?_
    refine FW.getR dX4_add_10 lfX4_9 sR_41_1 ?_
    refine QW.aload_n dX4_add_13 rfl ?_
    refine FW.getI (h 41 0) dX4_add_14 lfX4_18 sI_41_0 rfl ?_
    refine QW.iload_n dX4_add_17 rfl ?_
    refine FW.iast dX4_add_18 sA_42 vc.1 ?_
    replace vc := vc.2
    refine QW.aload_n dX4_add_19 rfl ?_
    refine FW.getR dX4_add_20 lfX4_15 sR_41_2 ?_
    refine QW.aload_n dX4_add_23 rfl ?_
    refine FW.getI (h 41 0) dX4_add_24 lfX4_18 sI_41_0 rfl ?_
    refine QW.iload_n dX4_add_27 rfl ?_
    refine FW.iast dX4_add_28 sA_43 vc.1 ?_
    replace vc := vc.2
    refine QW.aload_n dX4_add_29 rfl ?_
    refine QW.dupr dX4_add_30 ?_
    refine FW.getI (h 41 0) dX4_add_31 lfX4_18 sI_41_0 rfl ?_
    refine QW.iconst (1 : Int32) rfl dX4_add_34 ?_
    refine QW.iadd dX4_add_35 ?_
    refine FW.putI dX4_add_36 lfX4_18 sP_41_0 ?_
    exact FW.retV dX4_add_39 rfl vc
theorem vX8_sort_0 {g : QG} {K : Int32 → Hp → Prop} {h : Hp} {a0 : Int32} (vc : (a0 < (97 : Int32) → (a0 < (48 : Int32) → K (0 : Int32) h) ∧ (¬ a0 < (48 : Int32) → ((57 : Int32) < a0 → K (0 : Int32) h) ∧ (¬ (57 : Int32) < a0 → K (2 : Int32) h))) ∧ (¬ a0 < (97 : Int32) → ((122 : Int32) < a0 → (a0 < (48 : Int32) → K (0 : Int32) h) ∧ (¬ a0 < (48 : Int32) → ((57 : Int32) < a0 → K (0 : Int32) h) ∧ (¬ (57 : Int32) < a0 → K (2 : Int32) h))) ∧ (¬ (122 : Int32) < a0 → K (1 : Int32) h))) : FW g mX8_sort 0 [some (.int a0)] [] h (q_RI K) := by
  refine QW.iload_n dX8_sort_0 rfl ?_
  refine QW.bipush (97 : Int32) rfl dX8_sort_1 ?_
  refine QW.icmp_lt 16 dX8_sort_3 rfl (fun hc => ?_) (fun hc => ?_)
  · replace vc := vc.1 hc
    refine QW.iload_n dX8_sort_16 rfl ?_
    refine QW.bipush (48 : Int32) rfl dX8_sort_17 ?_
    refine QW.icmp_lt 32 dX8_sort_19 rfl (fun hc => ?_) (fun hc => ?_)
    · replace vc := vc.1 hc
      refine QW.iconst (0 : Int32) rfl dX8_sort_32 ?_
      exact FW.ret dX8_sort_33 rfl vc
    · replace vc := vc.2 hc
      refine QW.iload_n dX8_sort_22 rfl ?_
      refine QW.bipush (57 : Int32) rfl dX8_sort_23 ?_
      refine QW.icmp_gt 32 dX8_sort_25 rfl (fun hc => ?_) (fun hc => ?_)
      · replace vc := vc.1 hc
        refine QW.iconst (0 : Int32) rfl dX8_sort_32 ?_
        exact FW.ret dX8_sort_33 rfl vc
      · replace vc := vc.2 hc
        refine QW.iconst (2 : Int32) rfl dX8_sort_28 ?_
        refine QW.goto 33 dX8_sort_29 rfl ?_
        exact FW.ret dX8_sort_33 rfl vc
  · replace vc := vc.2 hc
    refine QW.iload_n dX8_sort_6 rfl ?_
    refine QW.bipush (122 : Int32) rfl dX8_sort_7 ?_
    refine QW.icmp_gt 16 dX8_sort_9 rfl (fun hc => ?_) (fun hc => ?_)
    · replace vc := vc.1 hc
      refine QW.iload_n dX8_sort_16 rfl ?_
      refine QW.bipush (48 : Int32) rfl dX8_sort_17 ?_
      refine QW.icmp_lt 32 dX8_sort_19 rfl (fun hc => ?_) (fun hc => ?_)
      · replace vc := vc.1 hc
        refine QW.iconst (0 : Int32) rfl dX8_sort_32 ?_
        exact FW.ret dX8_sort_33 rfl vc
      · replace vc := vc.2 hc
        refine QW.iload_n dX8_sort_22 rfl ?_
        refine QW.bipush (57 : Int32) rfl dX8_sort_23 ?_
        refine QW.icmp_gt 32 dX8_sort_25 rfl (fun hc => ?_) (fun hc => ?_)
        · replace vc := vc.1 hc
          refine QW.iconst (0 : Int32) rfl dX8_sort_32 ?_
          exact FW.ret dX8_sort_33 rfl vc
        · replace vc := vc.2 hc
          refine QW.iconst (2 : Int32) rfl dX8_sort_28 ?_
          refine QW.goto 33 dX8_sort_29 rfl ?_
          exact FW.ret dX8_sort_33 rfl vc
    · replace vc := vc.2 hc
      refine QW.iconst (1 : Int32) rfl dX8_sort_12 ?_
      refine QW.goto 33 dX8_sort_13 rfl ?_
      exact FW.ret dX8_sort_33 rfl vc
theorem vJ7_fill_53178_r30_0 {g : QG} {K : Hp → Prop} {h : Hp} {a1 : Int32} (vc : FW g mJ7_fill_53178 5 [some (.ref 30), some (.int a1), some (.int (0 : Int32)), some (.int (6 : Int32))] [] h (q_RV K)) : FW g mJ7_fill_53178 0 [some (.ref 30), some (.int a1), none, none] [] h (q_RV K) := by
  refine QW.iconst (0 : Int32) rfl dJ7_fill_53178_0 ?_
  refine QW.istore_n [some (.ref 30), some (.int a1), some (.int (0 : Int32)), none] dJ7_fill_53178_1 (by decide) rfl rfl ?_
  refine QW.aload_n dJ7_fill_53178_2 rfl ?_
  refine FW.alen (6 : Int32) dJ7_fill_53178_3 sA_30 rfl ?_
  refine QW.istore_n [some (.ref 30), some (.int a1), some (.int (0 : Int32)), some (.int (6 : Int32))] dJ7_fill_53178_4 (by decide) rfl rfl ?_
  exact vc
theorem vJ7_fill_53178_r30_5 {g : QG} {K : Hp → Prop} {h : Hp} {a1 a2 a3 : Int32} (vc : (a3 ≤ a2 → K h) ∧ (¬ a3 ≤ a2 → vp_in a2 6 ∧ FW g mJ7_fill_53178 5 [some (.ref 30), some (.int a1), some (.int (a2 + (1 : Int32))), some (.int a3)] [] (q_up h 30 a2.toNatClampNeg a1) (q_RV K))) : FW g mJ7_fill_53178 5 [some (.ref 30), some (.int a1), some (.int a2), some (.int a3)] [] h (q_RV K) := by
  refine QW.iload_n dJ7_fill_53178_5 rfl ?_
  refine QW.iload_n dJ7_fill_53178_6 rfl ?_
  refine QW.icmp_ge 20 dJ7_fill_53178_7 rfl (fun hc => ?_) (fun hc => ?_)
  · replace vc := vc.1 hc
    exact FW.retV dJ7_fill_53178_20 rfl vc
  · replace vc := vc.2 hc
    refine QW.aload_n dJ7_fill_53178_10 rfl ?_
    refine QW.iload_n dJ7_fill_53178_11 rfl ?_
    refine QW.iload_n dJ7_fill_53178_12 rfl ?_
    refine FW.iast dJ7_fill_53178_13 sA_30 vc.1 ?_
    replace vc := vc.2
    refine QW.iinc (a2 + (1 : Int32)) [some (.ref 30), some (.int a1), some (.int (a2 + (1 : Int32))), some (.int a3)] dJ7_fill_53178_14 rfl rfl (by decide) rfl rfl ?_
    refine QW.goto 5 dJ7_fill_53178_17 rfl ?_
    exact vc
theorem vX6_farthest_0 {g : QG} {K : Int32 → Hp → Prop} {h : Hp} (vc : K ((h 1 0) / (2 : Int32)) h) : FW g mX6_farthest 0 [some (.ref 1)] [] h (q_RI K) := by
  refine QW.aload_n dX6_farthest_0 rfl ?_
  refine FW.getI (h 1 0) dX6_farthest_1 lfX6_9 sI_1_0 rfl ?_
  refine QW.iconst (2 : Int32) rfl dX6_farthest_4 ?_
  refine QW.idiv (by decide) dX6_farthest_5 ?_
  exact FW.ret dX6_farthest_6 rfl vc
theorem vX8_far_0 {g : QG} {K : Int32 → Hp → Prop} {h : Hp} {a1 a2 : Int32} (vc : (¬ (h 44 6) = 0) ∧ (((h 44 6) - (((a2 - a1) + (h 44 6)) - ((a2 - a1) + (h 44 6)) / (h 44 6) * (h 44 6))) ≤ (((a2 - a1) + (h 44 6)) - ((a2 - a1) + (h 44 6)) / (h 44 6) * (h 44 6)) → K ((h 44 6) - (((a2 - a1) + (h 44 6)) - ((a2 - a1) + (h 44 6)) / (h 44 6) * (h 44 6))) h) ∧ (¬ ((h 44 6) - (((a2 - a1) + (h 44 6)) - ((a2 - a1) + (h 44 6)) / (h 44 6) * (h 44 6))) ≤ (((a2 - a1) + (h 44 6)) - ((a2 - a1) + (h 44 6)) / (h 44 6) * (h 44 6)) → K (((a2 - a1) + (h 44 6)) - ((a2 - a1) + (h 44 6)) / (h 44 6) * (h 44 6)) h)) : FW g mX8_far 0 [some (.ref 44), some (.int a1), some (.int a2), none] [] h (q_RI K) := by
  refine QW.iload_n dX8_far_0 rfl ?_
  refine QW.iload_n dX8_far_1 rfl ?_
  refine QW.isub dX8_far_2 ?_
  refine QW.aload_n dX8_far_3 rfl ?_
  refine FW.getI (h 44 6) dX8_far_4 lfX8_23 sI_44_6 rfl ?_
  refine QW.iadd dX8_far_7 ?_
  refine QW.aload_n dX8_far_8 rfl ?_
  refine FW.getI (h 44 6) dX8_far_9 lfX8_23 sI_44_6 rfl ?_
  refine QW.irem vc.1 dX8_far_12 ?_
  replace vc := vc.2
  refine QW.istore_n [some (.ref 44), some (.int a1), some (.int a2), some (.int (((a2 - a1) + (h 44 6)) - ((a2 - a1) + (h 44 6)) / (h 44 6) * (h 44 6)))] dX8_far_13 (by decide) rfl rfl ?_
  refine QW.iload_n dX8_far_14 rfl ?_
  refine QW.aload_n dX8_far_15 rfl ?_
  refine FW.getI (h 44 6) dX8_far_16 lfX8_23 sI_44_6 rfl ?_
  refine QW.iload_n dX8_far_19 rfl ?_
  refine QW.isub dX8_far_20 ?_
  refine QW.icmp_ge 28 dX8_far_21 rfl (fun hc => ?_) (fun hc => ?_)
  · replace vc := vc.1 hc
    refine QW.aload_n dX8_far_28 rfl ?_
    refine FW.getI (h 44 6) dX8_far_29 lfX8_23 sI_44_6 rfl ?_
    refine QW.iload_n dX8_far_32 rfl ?_
    refine QW.isub dX8_far_33 ?_
    exact FW.ret dX8_far_34 rfl vc
  · replace vc := vc.2 hc
    refine QW.iload_n dX8_far_24 rfl ?_
    refine QW.goto 34 dX8_far_25 rfl ?_
    exact FW.ret dX8_far_34 rfl vc
theorem vJ7_fill_53178_r18_0 {g : QG} {K : Hp → Prop} {h : Hp} {a1 : Int32} (vc : FW g mJ7_fill_53178 5 [some (.ref 18), some (.int a1), some (.int (0 : Int32)), some (.int (6 : Int32))] [] h (q_RV K)) : FW g mJ7_fill_53178 0 [some (.ref 18), some (.int a1), none, none] [] h (q_RV K) := by
  refine QW.iconst (0 : Int32) rfl dJ7_fill_53178_0 ?_
  refine QW.istore_n [some (.ref 18), some (.int a1), some (.int (0 : Int32)), none] dJ7_fill_53178_1 (by decide) rfl rfl ?_
  refine QW.aload_n dJ7_fill_53178_2 rfl ?_
  refine FW.alen (6 : Int32) dJ7_fill_53178_3 sA_18 rfl ?_
  refine QW.istore_n [some (.ref 18), some (.int a1), some (.int (0 : Int32)), some (.int (6 : Int32))] dJ7_fill_53178_4 (by decide) rfl rfl ?_
  exact vc
theorem vJ7_fill_53178_r18_5 {g : QG} {K : Hp → Prop} {h : Hp} {a1 a2 a3 : Int32} (vc : (a3 ≤ a2 → K h) ∧ (¬ a3 ≤ a2 → vp_in a2 6 ∧ FW g mJ7_fill_53178 5 [some (.ref 18), some (.int a1), some (.int (a2 + (1 : Int32))), some (.int a3)] [] (q_up h 18 a2.toNatClampNeg a1) (q_RV K))) : FW g mJ7_fill_53178 5 [some (.ref 18), some (.int a1), some (.int a2), some (.int a3)] [] h (q_RV K) := by
  refine QW.iload_n dJ7_fill_53178_5 rfl ?_
  refine QW.iload_n dJ7_fill_53178_6 rfl ?_
  refine QW.icmp_ge 20 dJ7_fill_53178_7 rfl (fun hc => ?_) (fun hc => ?_)
  · replace vc := vc.1 hc
    exact FW.retV dJ7_fill_53178_20 rfl vc
  · replace vc := vc.2 hc
    refine QW.aload_n dJ7_fill_53178_10 rfl ?_
    refine QW.iload_n dJ7_fill_53178_11 rfl ?_
    refine QW.iload_n dJ7_fill_53178_12 rfl ?_
    refine FW.iast dJ7_fill_53178_13 sA_18 vc.1 ?_
    replace vc := vc.2
    refine QW.iinc (a2 + (1 : Int32)) [some (.ref 18), some (.int a1), some (.int (a2 + (1 : Int32))), some (.int a3)] dJ7_fill_53178_14 rfl rfl (by decide) rfl rfl ?_
    refine QW.goto 5 dJ7_fill_53178_17 rfl ?_
    exact vc
theorem vJ7_fill_53178_r19_0 {g : QG} {K : Hp → Prop} {h : Hp} {a1 : Int32} (vc : FW g mJ7_fill_53178 5 [some (.ref 19), some (.int a1), some (.int (0 : Int32)), some (.int (12 : Int32))] [] h (q_RV K)) : FW g mJ7_fill_53178 0 [some (.ref 19), some (.int a1), none, none] [] h (q_RV K) := by
  refine QW.iconst (0 : Int32) rfl dJ7_fill_53178_0 ?_
  refine QW.istore_n [some (.ref 19), some (.int a1), some (.int (0 : Int32)), none] dJ7_fill_53178_1 (by decide) rfl rfl ?_
  refine QW.aload_n dJ7_fill_53178_2 rfl ?_
  refine FW.alen (12 : Int32) dJ7_fill_53178_3 sA_19 rfl ?_
  refine QW.istore_n [some (.ref 19), some (.int a1), some (.int (0 : Int32)), some (.int (12 : Int32))] dJ7_fill_53178_4 (by decide) rfl rfl ?_
  exact vc
theorem vJ7_fill_53178_r19_5 {g : QG} {K : Hp → Prop} {h : Hp} {a1 a2 a3 : Int32} (vc : (a3 ≤ a2 → K h) ∧ (¬ a3 ≤ a2 → vp_in a2 12 ∧ FW g mJ7_fill_53178 5 [some (.ref 19), some (.int a1), some (.int (a2 + (1 : Int32))), some (.int a3)] [] (q_up h 19 a2.toNatClampNeg a1) (q_RV K))) : FW g mJ7_fill_53178 5 [some (.ref 19), some (.int a1), some (.int a2), some (.int a3)] [] h (q_RV K) := by
  refine QW.iload_n dJ7_fill_53178_5 rfl ?_
  refine QW.iload_n dJ7_fill_53178_6 rfl ?_
  refine QW.icmp_ge 20 dJ7_fill_53178_7 rfl (fun hc => ?_) (fun hc => ?_)
  · replace vc := vc.1 hc
    exact FW.retV dJ7_fill_53178_20 rfl vc
  · replace vc := vc.2 hc
    refine QW.aload_n dJ7_fill_53178_10 rfl ?_
    refine QW.iload_n dJ7_fill_53178_11 rfl ?_
    refine QW.iload_n dJ7_fill_53178_12 rfl ?_
    refine FW.iast dJ7_fill_53178_13 sA_19 vc.1 ?_
    replace vc := vc.2
    refine QW.iinc (a2 + (1 : Int32)) [some (.ref 19), some (.int a1), some (.int (a2 + (1 : Int32))), some (.int a3)] dJ7_fill_53178_14 rfl rfl (by decide) rfl rfl ?_
    refine QW.goto 5 dJ7_fill_53178_17 rfl ?_
    exact vc
theorem vX6_allOfKind_0 {g : QG} {K : Int32 → Hp → Prop} {h : Hp} {a1 : Int32} (vc : FW g mX6_allOfKind 4 [some (.ref 1), some (.int a1), some (.int (0 : Int32)), some (.int (0 : Int32))] [] h (q_RI K)) : FW g mX6_allOfKind 0 [some (.ref 1), some (.int a1), none, none] [] h (q_RI K) := by
  refine QW.iconst (0 : Int32) rfl dX6_allOfKind_0 ?_
  refine QW.istore_n [some (.ref 1), some (.int a1), some (.int (0 : Int32)), none] dX6_allOfKind_1 (by decide) rfl rfl ?_
  refine QW.iconst (0 : Int32) rfl dX6_allOfKind_2 ?_
  refine QW.istore_n [some (.ref 1), some (.int a1), some (.int (0 : Int32)), some (.int (0 : Int32))] dX6_allOfKind_3 (by decide) rfl rfl ?_
  exact vc
theorem vX6_allOfKind_4 {g : QG} {K : Int32 → Hp → Prop} {h : Hp} {a1 a2 a3 : Int32} (vc : ((h 1 2) ≤ a3 → K a2 h) ∧ (¬ (h 1 2) ≤ a3 → vp_in a3 6 ∧ (¬ (h 2 a3.toNatClampNeg) = a1 → FW g mX6_allOfKind 4 [some (.ref 1), some (.int a1), some (.int a2), some (.int (a3 + (1 : Int32)))] [] h (q_RI K)) ∧ ((h 2 a3.toNatClampNeg) = a1 → FW g mX6_allOfKind 4 [some (.ref 1), some (.int a1), some (.int (a2 ||| ((1 : Int32) <<< (a3 &&& 31)))), some (.int (a3 + (1 : Int32)))] [] h (q_RI K)))) : FW g mX6_allOfKind 4 [some (.ref 1), some (.int a1), some (.int a2), some (.int a3)] [] h (q_RI K) := by
  refine QW.iload_n dX6_allOfKind_4 rfl ?_
  refine QW.aload_n dX6_allOfKind_5 rfl ?_
  refine FW.getI (h 1 2) dX6_allOfKind_6 lfX6_34 sI_1_2 rfl ?_
  refine QW.icmp_ge 34 dX6_allOfKind_9 rfl (fun hc => ?_) (fun hc => ?_)
  · replace vc := vc.1 hc
    refine QW.iload_n dX6_allOfKind_34 rfl ?_
    exact FW.ret dX6_allOfKind_35 rfl vc
  · replace vc := vc.2 hc
    refine QW.aload_n dX6_allOfKind_12 rfl ?_
    refine FW.getR dX6_allOfKind_13 lfX6_15 sR_1_3 ?_
    refine QW.iload_n dX6_allOfKind_16 rfl ?_
    refine FW.iald (h 2 a3.toNatClampNeg) dX6_allOfKind_17 sA_2 vc.1 rfl ?_
    replace vc := vc.2
    refine QW.iload_n dX6_allOfKind_18 rfl ?_
    refine QW.icmp_ne 28 dX6_allOfKind_19 rfl (fun hc => ?_) (fun hc => ?_)
    · replace vc := vc.1 hc
      refine QW.iinc (a3 + (1 : Int32)) [some (.ref 1), some (.int a1), some (.int a2), some (.int (a3 + (1 : Int32)))] dX6_allOfKind_28 rfl rfl (by decide) rfl rfl ?_
      refine QW.goto 4 dX6_allOfKind_31 rfl ?_
      exact vc
    · replace vc := vc.2 hc
      refine QW.iload_n dX6_allOfKind_22 rfl ?_
      refine QW.iconst (1 : Int32) rfl dX6_allOfKind_23 ?_
      refine QW.iload_n dX6_allOfKind_24 rfl ?_
      refine QW.ishl dX6_allOfKind_25 ?_
      refine QW.ior dX6_allOfKind_26 ?_
      refine QW.istore_n [some (.ref 1), some (.int a1), some (.int (a2 ||| ((1 : Int32) <<< (a3 &&& 31)))), some (.int a3)] dX6_allOfKind_27 (by decide) rfl rfl ?_
      refine QW.iinc (a3 + (1 : Int32)) [some (.ref 1), some (.int a1), some (.int (a2 ||| ((1 : Int32) <<< (a3 &&& 31)))), some (.int (a3 + (1 : Int32)))] dX6_allOfKind_28 rfl rfl (by decide) rfl rfl ?_
      refine QW.goto 4 dX6_allOfKind_31 rfl ?_
      exact vc
theorem vJ6_bitCount_0f7a4_0 {g : QG} {K : Int32 → Hp → Prop} {h : Hp} {a0 : Int32} (vc : K ((((((((a0 - (((a0.toUInt32 >>> ((1 : Int32).toUInt32 &&& Int32.toUInt32 31)).toInt32) &&& (1431655765 : Int32))) &&& (858993459 : Int32)) + ((((a0 - (((a0.toUInt32 >>> ((1 : Int32).toUInt32 &&& Int32.toUInt32 31)).toInt32) &&& (1431655765 : Int32))).toUInt32 >>> ((2 : Int32).toUInt32 &&& Int32.toUInt32 31)).toInt32) &&& (858993459 : Int32))) + (((((a0 - (((a0.toUInt32 >>> ((1 : Int32).toUInt32 &&& Int32.toUInt32 31)).toInt32) &&& (1431655765 : Int32))) &&& (858993459 : Int32)) + ((((a0 - (((a0.toUInt32 >>> ((1 : Int32).toUInt32 &&& Int32.toUInt32 31)).toInt32) &&& (1431655765 : Int32))).toUInt32 >>> ((2 : Int32).toUInt32 &&& Int32.toUInt32 31)).toInt32) &&& (858993459 : Int32))).toUInt32 >>> ((4 : Int32).toUInt32 &&& Int32.toUInt32 31)).toInt32)) &&& (252645135 : Int32)) + (((((((a0 - (((a0.toUInt32 >>> ((1 : Int32).toUInt32 &&& Int32.toUInt32 31)).toInt32) &&& (1431655765 : Int32))) &&& (858993459 : Int32)) + ((((a0 - (((a0.toUInt32 >>> ((1 : Int32).toUInt32 &&& Int32.toUInt32 31)).toInt32) &&& (1431655765 : Int32))).toUInt32 >>> ((2 : Int32).toUInt32 &&& Int32.toUInt32 31)).toInt32) &&& (858993459 : Int32))) + (((((a0 - (((a0.toUInt32 >>> ((1 : Int32).toUInt32 &&& Int32.toUInt32 31)).toInt32) &&& (1431655765 : Int32))) &&& (858993459 : Int32)) + ((((a0 - (((a0.toUInt32 >>> ((1 : Int32).toUInt32 &&& Int32.toUInt32 31)).toInt32) &&& (1431655765 : Int32))).toUInt32 >>> ((2 : Int32).toUInt32 &&& Int32.toUInt32 31)).toInt32) &&& (858993459 : Int32))).toUInt32 >>> ((4 : Int32).toUInt32 &&& Int32.toUInt32 31)).toInt32)) &&& (252645135 : Int32)).toUInt32 >>> ((8 : Int32).toUInt32 &&& Int32.toUInt32 31)).toInt32)) + ((((((((a0 - (((a0.toUInt32 >>> ((1 : Int32).toUInt32 &&& Int32.toUInt32 31)).toInt32) &&& (1431655765 : Int32))) &&& (858993459 : Int32)) + ((((a0 - (((a0.toUInt32 >>> ((1 : Int32).toUInt32 &&& Int32.toUInt32 31)).toInt32) &&& (1431655765 : Int32))).toUInt32 >>> ((2 : Int32).toUInt32 &&& Int32.toUInt32 31)).toInt32) &&& (858993459 : Int32))) + (((((a0 - (((a0.toUInt32 >>> ((1 : Int32).toUInt32 &&& Int32.toUInt32 31)).toInt32) &&& (1431655765 : Int32))) &&& (858993459 : Int32)) + ((((a0 - (((a0.toUInt32 >>> ((1 : Int32).toUInt32 &&& Int32.toUInt32 31)).toInt32) &&& (1431655765 : Int32))).toUInt32 >>> ((2 : Int32).toUInt32 &&& Int32.toUInt32 31)).toInt32) &&& (858993459 : Int32))).toUInt32 >>> ((4 : Int32).toUInt32 &&& Int32.toUInt32 31)).toInt32)) &&& (252645135 : Int32)) + (((((((a0 - (((a0.toUInt32 >>> ((1 : Int32).toUInt32 &&& Int32.toUInt32 31)).toInt32) &&& (1431655765 : Int32))) &&& (858993459 : Int32)) + ((((a0 - (((a0.toUInt32 >>> ((1 : Int32).toUInt32 &&& Int32.toUInt32 31)).toInt32) &&& (1431655765 : Int32))).toUInt32 >>> ((2 : Int32).toUInt32 &&& Int32.toUInt32 31)).toInt32) &&& (858993459 : Int32))) + (((((a0 - (((a0.toUInt32 >>> ((1 : Int32).toUInt32 &&& Int32.toUInt32 31)).toInt32) &&& (1431655765 : Int32))) &&& (858993459 : Int32)) + ((((a0 - (((a0.toUInt32 >>> ((1 : Int32).toUInt32 &&& Int32.toUInt32 31)).toInt32) &&& (1431655765 : Int32))).toUInt32 >>> ((2 : Int32).toUInt32 &&& Int32.toUInt32 31)).toInt32) &&& (858993459 : Int32))).toUInt32 >>> ((4 : Int32).toUInt32 &&& Int32.toUInt32 31)).toInt32)) &&& (252645135 : Int32)).toUInt32 >>> ((8 : Int32).toUInt32 &&& Int32.toUInt32 31)).toInt32)).toUInt32 >>> ((16 : Int32).toUInt32 &&& Int32.toUInt32 31)).toInt32)) &&& (63 : Int32)) h) : FW g mJ6_bitCount_0f7a4 0 [some (.int a0)] [] h (q_RI K) := by
  refine QW.iload_n dJ6_bitCount_0f7a4_0 rfl ?_
  refine QW.iload_n dJ6_bitCount_0f7a4_1 rfl ?_
  refine QW.iconst (1 : Int32) rfl dJ6_bitCount_0f7a4_2 ?_
  refine QW.iushr dJ6_bitCount_0f7a4_3 ?_
  refine QW.ldcw dJ6_bitCount_0f7a4_4 lkJ6_265 ?_
  refine QW.iand dJ6_bitCount_0f7a4_7 ?_
  refine QW.isub dJ6_bitCount_0f7a4_8 ?_
  refine QW.istore_n [some (.int (a0 - (((a0.toUInt32 >>> ((1 : Int32).toUInt32 &&& Int32.toUInt32 31)).toInt32) &&& (1431655765 : Int32))))] dJ6_bitCount_0f7a4_9 (by decide) rfl rfl ?_
  refine QW.iload_n dJ6_bitCount_0f7a4_10 rfl ?_
  refine QW.ldcw dJ6_bitCount_0f7a4_11 lkJ6_266 ?_
  refine QW.iand dJ6_bitCount_0f7a4_14 ?_
  refine QW.iload_n dJ6_bitCount_0f7a4_15 rfl ?_
  refine QW.iconst (2 : Int32) rfl dJ6_bitCount_0f7a4_16 ?_
  refine QW.iushr dJ6_bitCount_0f7a4_17 ?_
  refine QW.ldcw dJ6_bitCount_0f7a4_18 lkJ6_266 ?_
  refine QW.iand dJ6_bitCount_0f7a4_21 ?_
  refine QW.iadd dJ6_bitCount_0f7a4_22 ?_
  refine QW.istore_n [some (.int (((a0 - (((a0.toUInt32 >>> ((1 : Int32).toUInt32 &&& Int32.toUInt32 31)).toInt32) &&& (1431655765 : Int32))) &&& (858993459 : Int32)) + ((((a0 - (((a0.toUInt32 >>> ((1 : Int32).toUInt32 &&& Int32.toUInt32 31)).toInt32) &&& (1431655765 : Int32))).toUInt32 >>> ((2 : Int32).toUInt32 &&& Int32.toUInt32 31)).toInt32) &&& (858993459 : Int32))))] dJ6_bitCount_0f7a4_23 (by decide) rfl rfl ?_
  refine QW.iload_n dJ6_bitCount_0f7a4_24 rfl ?_
  refine QW.iload_n dJ6_bitCount_0f7a4_25 rfl ?_
  refine QW.iconst (4 : Int32) rfl dJ6_bitCount_0f7a4_26 ?_
  refine QW.iushr dJ6_bitCount_0f7a4_27 ?_
  refine QW.iadd dJ6_bitCount_0f7a4_28 ?_
  refine QW.ldcw dJ6_bitCount_0f7a4_29 lkJ6_267 ?_
  refine QW.iand dJ6_bitCount_0f7a4_32 ?_
  refine QW.istore_n [some (.int (((((a0 - (((a0.toUInt32 >>> ((1 : Int32).toUInt32 &&& Int32.toUInt32 31)).toInt32) &&& (1431655765 : Int32))) &&& (858993459 : Int32)) + ((((a0 - (((a0.toUInt32 >>> ((1 : Int32).toUInt32 &&& Int32.toUInt32 31)).toInt32) &&& (1431655765 : Int32))).toUInt32 >>> ((2 : Int32).toUInt32 &&& Int32.toUInt32 31)).toInt32) &&& (858993459 : Int32))) + (((((a0 - (((a0.toUInt32 >>> ((1 : Int32).toUInt32 &&& Int32.toUInt32 31)).toInt32) &&& (1431655765 : Int32))) &&& (858993459 : Int32)) + ((((a0 - (((a0.toUInt32 >>> ((1 : Int32).toUInt32 &&& Int32.toUInt32 31)).toInt32) &&& (1431655765 : Int32))).toUInt32 >>> ((2 : Int32).toUInt32 &&& Int32.toUInt32 31)).toInt32) &&& (858993459 : Int32))).toUInt32 >>> ((4 : Int32).toUInt32 &&& Int32.toUInt32 31)).toInt32)) &&& (252645135 : Int32)))] dJ6_bitCount_0f7a4_33 (by decide) rfl rfl ?_
  refine QW.iload_n dJ6_bitCount_0f7a4_34 rfl ?_
  refine QW.iload_n dJ6_bitCount_0f7a4_35 rfl ?_
  refine QW.bipush (8 : Int32) rfl dJ6_bitCount_0f7a4_36 ?_
  refine QW.iushr dJ6_bitCount_0f7a4_38 ?_
  refine QW.iadd dJ6_bitCount_0f7a4_39 ?_
  refine QW.istore_n [some (.int ((((((a0 - (((a0.toUInt32 >>> ((1 : Int32).toUInt32 &&& Int32.toUInt32 31)).toInt32) &&& (1431655765 : Int32))) &&& (858993459 : Int32)) + ((((a0 - (((a0.toUInt32 >>> ((1 : Int32).toUInt32 &&& Int32.toUInt32 31)).toInt32) &&& (1431655765 : Int32))).toUInt32 >>> ((2 : Int32).toUInt32 &&& Int32.toUInt32 31)).toInt32) &&& (858993459 : Int32))) + (((((a0 - (((a0.toUInt32 >>> ((1 : Int32).toUInt32 &&& Int32.toUInt32 31)).toInt32) &&& (1431655765 : Int32))) &&& (858993459 : Int32)) + ((((a0 - (((a0.toUInt32 >>> ((1 : Int32).toUInt32 &&& Int32.toUInt32 31)).toInt32) &&& (1431655765 : Int32))).toUInt32 >>> ((2 : Int32).toUInt32 &&& Int32.toUInt32 31)).toInt32) &&& (858993459 : Int32))).toUInt32 >>> ((4 : Int32).toUInt32 &&& Int32.toUInt32 31)).toInt32)) &&& (252645135 : Int32)) + (((((((a0 - (((a0.toUInt32 >>> ((1 : Int32).toUInt32 &&& Int32.toUInt32 31)).toInt32) &&& (1431655765 : Int32))) &&& (858993459 : Int32)) + ((((a0 - (((a0.toUInt32 >>> ((1 : Int32).toUInt32 &&& Int32.toUInt32 31)).toInt32) &&& (1431655765 : Int32))).toUInt32 >>> ((2 : Int32).toUInt32 &&& Int32.toUInt32 31)).toInt32) &&& (858993459 : Int32))) + (((((a0 - (((a0.toUInt32 >>> ((1 : Int32).toUInt32 &&& Int32.toUInt32 31)).toInt32) &&& (1431655765 : Int32))) &&& (858993459 : Int32)) + ((((a0 - (((a0.toUInt32 >>> ((1 : Int32).toUInt32 &&& Int32.toUInt32 31)).toInt32) &&& (1431655765 : Int32))).toUInt32 >>> ((2 : Int32).toUInt32 &&& Int32.toUInt32 31)).toInt32) &&& (858993459 : Int32))).toUInt32 >>> ((4 : Int32).toUInt32 &&& Int32.toUInt32 31)).toInt32)) &&& (252645135 : Int32)).toUInt32 >>> ((8 : Int32).toUInt32 &&& Int32.toUInt32 31)).toInt32)))] dJ6_bitCount_0f7a4_40 (by decide) rfl rfl ?_
  refine QW.iload_n dJ6_bitCount_0f7a4_41 rfl ?_
  refine QW.iload_n dJ6_bitCount_0f7a4_42 rfl ?_
  refine QW.bipush (16 : Int32) rfl dJ6_bitCount_0f7a4_43 ?_
  refine QW.iushr dJ6_bitCount_0f7a4_45 ?_
  refine QW.iadd dJ6_bitCount_0f7a4_46 ?_
  refine QW.istore_n [some (.int (((((((a0 - (((a0.toUInt32 >>> ((1 : Int32).toUInt32 &&& Int32.toUInt32 31)).toInt32) &&& (1431655765 : Int32))) &&& (858993459 : Int32)) + ((((a0 - (((a0.toUInt32 >>> ((1 : Int32).toUInt32 &&& Int32.toUInt32 31)).toInt32) &&& (1431655765 : Int32))).toUInt32 >>> ((2 : Int32).toUInt32 &&& Int32.toUInt32 31)).toInt32) &&& (858993459 : Int32))) + (((((a0 - (((a0.toUInt32 >>> ((1 : Int32).toUInt32 &&& Int32.toUInt32 31)).toInt32) &&& (1431655765 : Int32))) &&& (858993459 : Int32)) + ((((a0 - (((a0.toUInt32 >>> ((1 : Int32).toUInt32 &&& Int32.toUInt32 31)).toInt32) &&& (1431655765 : Int32))).toUInt32 >>> ((2 : Int32).toUInt32 &&& Int32.toUInt32 31)).toInt32) &&& (858993459 : Int32))).toUInt32 >>> ((4 : Int32).toUInt32 &&& Int32.toUInt32 31)).toInt32)) &&& (252645135 : Int32)) + (((((((a0 - (((a0.toUInt32 >>> ((1 : Int32).toUInt32 &&& Int32.toUInt32 31)).toInt32) &&& (1431655765 : Int32))) &&& (858993459 : Int32)) + ((((a0 - (((a0.toUInt32 >>> ((1 : Int32).toUInt32 &&& Int32.toUInt32 31)).toInt32) &&& (1431655765 : Int32))).toUInt32 >>> ((2 : Int32).toUInt32 &&& Int32.toUInt32 31)).toInt32) &&& (858993459 : Int32))) + (((((a0 - (((a0.toUInt32 >>> ((1 : Int32).toUInt32 &&& Int32.toUInt32 31)).toInt32) &&& (1431655765 : Int32))) &&& (858993459 : Int32)) + ((((a0 - (((a0.toUInt32 >>> ((1 : Int32).toUInt32 &&& Int32.toUInt32 31)).toInt32) &&& (1431655765 : Int32))).toUInt32 >>> ((2 : Int32).toUInt32 &&& Int32.toUInt32 31)).toInt32) &&& (858993459 : Int32))).toUInt32 >>> ((4 : Int32).toUInt32 &&& Int32.toUInt32 31)).toInt32)) &&& (252645135 : Int32)).toUInt32 >>> ((8 : Int32).toUInt32 &&& Int32.toUInt32 31)).toInt32)) + ((((((((a0 - (((a0.toUInt32 >>> ((1 : Int32).toUInt32 &&& Int32.toUInt32 31)).toInt32) &&& (1431655765 : Int32))) &&& (858993459 : Int32)) + ((((a0 - (((a0.toUInt32 >>> ((1 : Int32).toUInt32 &&& Int32.toUInt32 31)).toInt32) &&& (1431655765 : Int32))).toUInt32 >>> ((2 : Int32).toUInt32 &&& Int32.toUInt32 31)).toInt32) &&& (858993459 : Int32))) + (((((a0 - (((a0.toUInt32 >>> ((1 : Int32).toUInt32 &&& Int32.toUInt32 31)).toInt32) &&& (1431655765 : Int32))) &&& (858993459 : Int32)) + ((((a0 - (((a0.toUInt32 >>> ((1 : Int32).toUInt32 &&& Int32.toUInt32 31)).toInt32) &&& (1431655765 : Int32))).toUInt32 >>> ((2 : Int32).toUInt32 &&& Int32.toUInt32 31)).toInt32) &&& (858993459 : Int32))).toUInt32 >>> ((4 : Int32).toUInt32 &&& Int32.toUInt32 31)).toInt32)) &&& (252645135 : Int32)) + (((((((a0 - (((a0.toUInt32 >>> ((1 : Int32).toUInt32 &&& Int32.toUInt32 31)).toInt32) &&& (1431655765 : Int32))) &&& (858993459 : Int32)) + ((((a0 - (((a0.toUInt32 >>> ((1 : Int32).toUInt32 &&& Int32.toUInt32 31)).toInt32) &&& (1431655765 : Int32))).toUInt32 >>> ((2 : Int32).toUInt32 &&& Int32.toUInt32 31)).toInt32) &&& (858993459 : Int32))) + (((((a0 - (((a0.toUInt32 >>> ((1 : Int32).toUInt32 &&& Int32.toUInt32 31)).toInt32) &&& (1431655765 : Int32))) &&& (858993459 : Int32)) + ((((a0 - (((a0.toUInt32 >>> ((1 : Int32).toUInt32 &&& Int32.toUInt32 31)).toInt32) &&& (1431655765 : Int32))).toUInt32 >>> ((2 : Int32).toUInt32 &&& Int32.toUInt32 31)).toInt32) &&& (858993459 : Int32))).toUInt32 >>> ((4 : Int32).toUInt32 &&& Int32.toUInt32 31)).toInt32)) &&& (252645135 : Int32)).toUInt32 >>> ((8 : Int32).toUInt32 &&& Int32.toUInt32 31)).toInt32)).toUInt32 >>> ((16 : Int32).toUInt32 &&& Int32.toUInt32 31)).toInt32)))] dJ6_bitCount_0f7a4_47 (by decide) rfl rfl ?_
  refine QW.iload_n dJ6_bitCount_0f7a4_48 rfl ?_
  refine QW.bipush (63 : Int32) rfl dJ6_bitCount_0f7a4_49 ?_
  refine QW.iand dJ6_bitCount_0f7a4_51 ?_
  exact FW.ret dJ6_bitCount_0f7a4_52 rfl vc
theorem vX6_allWorth_0 {g : QG} {K : Int32 → Hp → Prop} {h : Hp} (vc : FW g mX6_allWorth 4 [some (.ref 1), some (.int (0 : Int32)), some (.int (0 : Int32))] [] h (q_RI K)) : FW g mX6_allWorth 0 [some (.ref 1), none, none] [] h (q_RI K) := by
  refine QW.iconst (0 : Int32) rfl dX6_allWorth_0 ?_
  refine QW.istore_n [some (.ref 1), some (.int (0 : Int32)), none] dX6_allWorth_1 (by decide) rfl rfl ?_
  refine QW.iconst (0 : Int32) rfl dX6_allWorth_2 ?_
  refine QW.istore_n [some (.ref 1), some (.int (0 : Int32)), some (.int (0 : Int32))] dX6_allWorth_3 (by decide) rfl rfl ?_
  exact vc
theorem vX6_allWorth_4 {g : QG} {K : Int32 → Hp → Prop} {h : Hp} {a1 a2 : Int32} (vc : ((h 1 2) ≤ a2 → K a1 h) ∧ (¬ (h 1 2) ≤ a2 → vp_in a2 6 ∧ FW g mX6_allWorth 4 [some (.ref 1), some (.int (a1 + (h 6 a2.toNatClampNeg))), some (.int (a2 + (1 : Int32)))] [] h (q_RI K))) : FW g mX6_allWorth 4 [some (.ref 1), some (.int a1), some (.int a2)] [] h (q_RI K) := by
  refine QW.iload_n dX6_allWorth_4 rfl ?_
  refine QW.aload_n dX6_allWorth_5 rfl ?_
  refine FW.getI (h 1 2) dX6_allWorth_6 lfX6_34 sI_1_2 rfl ?_
  refine QW.icmp_ge 27 dX6_allWorth_9 rfl (fun hc => ?_) (fun hc => ?_)
  · replace vc := vc.1 hc
    refine QW.iload_n dX6_allWorth_27 rfl ?_
    exact FW.ret dX6_allWorth_28 rfl vc
  · replace vc := vc.2 hc
    refine QW.iload_n dX6_allWorth_12 rfl ?_
    refine QW.aload_n dX6_allWorth_13 rfl ?_
    refine FW.getR dX6_allWorth_14 lfX6_28 sR_1_7 ?_
    refine QW.iload_n dX6_allWorth_17 rfl ?_
    refine FW.iald (h 6 a2.toNatClampNeg) dX6_allWorth_18 sA_6 vc.1 rfl ?_
    replace vc := vc.2
    refine QW.iadd dX6_allWorth_19 ?_
    refine QW.istore_n [some (.ref 1), some (.int (a1 + (h 6 a2.toNatClampNeg))), some (.int a2)] dX6_allWorth_20 (by decide) rfl rfl ?_
    refine QW.iinc (a2 + (1 : Int32)) [some (.ref 1), some (.int (a1 + (h 6 a2.toNatClampNeg))), some (.int (a2 + (1 : Int32)))] dX6_allWorth_21 rfl rfl (by decide) rfl rfl ?_
    refine QW.goto 4 dX6_allWorth_24 rfl ?_
    exact vc
theorem vX8_faint_0 {g : QG} {K : Int32 → Hp → Prop} {h : Hp} (vc : FW g mX8_faint 4 [some (.ref 44), some (.int (0 : Int32)), some (.int (0 : Int32))] [] h (q_RI K)) : FW g mX8_faint 0 [some (.ref 44), none, none] [] h (q_RI K) := by
  refine QW.iconst (0 : Int32) rfl dX8_faint_0 ?_
  refine QW.istore_n [some (.ref 44), some (.int (0 : Int32)), none] dX8_faint_1 (by decide) rfl rfl ?_
  refine QW.iconst (0 : Int32) rfl dX8_faint_2 ?_
  refine QW.istore_n [some (.ref 44), some (.int (0 : Int32)), some (.int (0 : Int32))] dX8_faint_3 (by decide) rfl rfl ?_
  exact vc
theorem vX8_faint_4 {g : QG} {K : Int32 → Hp → Prop} {h : Hp} {a1 a2 : Int32} (vc : ((h 44 13) ≤ a2 → K a1 h) ∧ (¬ (h 44 13) ≤ a2 → vp_in a2 6 ∧ (¬ (h 49 a2.toNatClampNeg) = (2 : Int32) → FW g mX8_faint 4 [some (.ref 44), some (.int (a1 ||| (0 : Int32))), some (.int (a2 + (1 : Int32)))] [] h (q_RI K)) ∧ ((h 49 a2.toNatClampNeg) = (2 : Int32) → FW g mX8_faint 4 [some (.ref 44), some (.int (a1 ||| ((1 : Int32) <<< (a2 &&& 31)))), some (.int (a2 + (1 : Int32)))] [] h (q_RI K)))) : FW g mX8_faint 4 [some (.ref 44), some (.int a1), some (.int a2)] [] h (q_RI K) := by
  refine QW.iload_n dX8_faint_4 rfl ?_
  refine QW.aload_n dX8_faint_5 rfl ?_
  refine FW.getI (h 44 13) dX8_faint_6 lfX8_74 sI_44_13 rfl ?_
  refine QW.icmp_ge 38 dX8_faint_9 rfl (fun hc => ?_) (fun hc => ?_)
  · replace vc := vc.1 hc
    refine QW.iload_n dX8_faint_38 rfl ?_
    exact FW.ret dX8_faint_39 rfl vc
  · replace vc := vc.2 hc
    refine QW.iload_n dX8_faint_12 rfl ?_
    refine QW.aload_n dX8_faint_13 rfl ?_
    refine FW.getR dX8_faint_14 lfX8_27 sR_44_8 ?_
    refine QW.iload_n dX8_faint_17 rfl ?_
    refine FW.iald (h 49 a2.toNatClampNeg) dX8_faint_18 sA_49 vc.1 rfl ?_
    replace vc := vc.2
    refine QW.iconst (2 : Int32) rfl dX8_faint_19 ?_
    refine QW.icmp_ne 29 dX8_faint_20 rfl (fun hc => ?_) (fun hc => ?_)
    · replace vc := vc.1 hc
      refine QW.iconst (0 : Int32) rfl dX8_faint_29 ?_
      refine QW.ior dX8_faint_30 ?_
      refine QW.istore_n [some (.ref 44), some (.int (a1 ||| (0 : Int32))), some (.int a2)] dX8_faint_31 (by decide) rfl rfl ?_
      refine QW.iinc (a2 + (1 : Int32)) [some (.ref 44), some (.int (a1 ||| (0 : Int32))), some (.int (a2 + (1 : Int32)))] dX8_faint_32 rfl rfl (by decide) rfl rfl ?_
      refine QW.goto 4 dX8_faint_35 rfl ?_
      exact vc
    · replace vc := vc.2 hc
      refine QW.iconst (1 : Int32) rfl dX8_faint_23 ?_
      refine QW.iload_n dX8_faint_24 rfl ?_
      refine QW.ishl dX8_faint_25 ?_
      refine QW.goto 30 dX8_faint_26 rfl ?_
      refine QW.ior dX8_faint_30 ?_
      refine QW.istore_n [some (.ref 44), some (.int (a1 ||| ((1 : Int32) <<< (a2 &&& 31)))), some (.int a2)] dX8_faint_31 (by decide) rfl rfl ?_
      refine QW.iinc (a2 + (1 : Int32)) [some (.ref 44), some (.int (a1 ||| ((1 : Int32) <<< (a2 &&& 31)))), some (.int (a2 + (1 : Int32)))] dX8_faint_32 rfl rfl (by decide) rfl rfl ?_
      refine QW.goto 4 dX8_faint_35 rfl ?_
      exact vc
theorem vJ7_fill_53178_r28_0 {g : QG} {K : Hp → Prop} {h : Hp} {a1 : Int32} (vc : FW g mJ7_fill_53178 5 [some (.ref 28), some (.int a1), some (.int (0 : Int32)), some (.int (6 : Int32))] [] h (q_RV K)) : FW g mJ7_fill_53178 0 [some (.ref 28), some (.int a1), none, none] [] h (q_RV K) := by
  refine QW.iconst (0 : Int32) rfl dJ7_fill_53178_0 ?_
  refine QW.istore_n [some (.ref 28), some (.int a1), some (.int (0 : Int32)), none] dJ7_fill_53178_1 (by decide) rfl rfl ?_
  refine QW.aload_n dJ7_fill_53178_2 rfl ?_
  refine FW.alen (6 : Int32) dJ7_fill_53178_3 sA_28 rfl ?_
  refine QW.istore_n [some (.ref 28), some (.int a1), some (.int (0 : Int32)), some (.int (6 : Int32))] dJ7_fill_53178_4 (by decide) rfl rfl ?_
  exact vc
theorem vJ7_fill_53178_r28_5 {g : QG} {K : Hp → Prop} {h : Hp} {a1 a2 a3 : Int32} (vc : (a3 ≤ a2 → K h) ∧ (¬ a3 ≤ a2 → vp_in a2 6 ∧ FW g mJ7_fill_53178 5 [some (.ref 28), some (.int a1), some (.int (a2 + (1 : Int32))), some (.int a3)] [] (q_up h 28 a2.toNatClampNeg a1) (q_RV K))) : FW g mJ7_fill_53178 5 [some (.ref 28), some (.int a1), some (.int a2), some (.int a3)] [] h (q_RV K) := by
  refine QW.iload_n dJ7_fill_53178_5 rfl ?_
  refine QW.iload_n dJ7_fill_53178_6 rfl ?_
  refine QW.icmp_ge 20 dJ7_fill_53178_7 rfl (fun hc => ?_) (fun hc => ?_)
  · replace vc := vc.1 hc
    exact FW.retV dJ7_fill_53178_20 rfl vc
  · replace vc := vc.2 hc
    refine QW.aload_n dJ7_fill_53178_10 rfl ?_
    refine QW.iload_n dJ7_fill_53178_11 rfl ?_
    refine QW.iload_n dJ7_fill_53178_12 rfl ?_
    refine FW.iast dJ7_fill_53178_13 sA_28 vc.1 ?_
    replace vc := vc.2
    refine QW.iinc (a2 + (1 : Int32)) [some (.ref 28), some (.int a1), some (.int (a2 + (1 : Int32))), some (.int a3)] dJ7_fill_53178_14 rfl rfl (by decide) rfl rfl ?_
    refine QW.goto 5 dJ7_fill_53178_17 rfl ?_
    exact vc
theorem vJ7_fill_53178_r29_0 {g : QG} {K : Hp → Prop} {h : Hp} {a1 : Int32} (vc : FW g mJ7_fill_53178 5 [some (.ref 29), some (.int a1), some (.int (0 : Int32)), some (.int (12 : Int32))] [] h (q_RV K)) : FW g mJ7_fill_53178 0 [some (.ref 29), some (.int a1), none, none] [] h (q_RV K) := by
  refine QW.iconst (0 : Int32) rfl dJ7_fill_53178_0 ?_
  refine QW.istore_n [some (.ref 29), some (.int a1), some (.int (0 : Int32)), none] dJ7_fill_53178_1 (by decide) rfl rfl ?_
  refine QW.aload_n dJ7_fill_53178_2 rfl ?_
  refine FW.alen (12 : Int32) dJ7_fill_53178_3 sA_29 rfl ?_
  refine QW.istore_n [some (.ref 29), some (.int a1), some (.int (0 : Int32)), some (.int (12 : Int32))] dJ7_fill_53178_4 (by decide) rfl rfl ?_
  exact vc
theorem vJ7_fill_53178_r29_5 {g : QG} {K : Hp → Prop} {h : Hp} {a1 a2 a3 : Int32} (vc : (a3 ≤ a2 → K h) ∧ (¬ a3 ≤ a2 → vp_in a2 12 ∧ FW g mJ7_fill_53178 5 [some (.ref 29), some (.int a1), some (.int (a2 + (1 : Int32))), some (.int a3)] [] (q_up h 29 a2.toNatClampNeg a1) (q_RV K))) : FW g mJ7_fill_53178 5 [some (.ref 29), some (.int a1), some (.int a2), some (.int a3)] [] h (q_RV K) := by
  refine QW.iload_n dJ7_fill_53178_5 rfl ?_
  refine QW.iload_n dJ7_fill_53178_6 rfl ?_
  refine QW.icmp_ge 20 dJ7_fill_53178_7 rfl (fun hc => ?_) (fun hc => ?_)
  · replace vc := vc.1 hc
    exact FW.retV dJ7_fill_53178_20 rfl vc
  · replace vc := vc.2 hc
    refine QW.aload_n dJ7_fill_53178_10 rfl ?_
    refine QW.iload_n dJ7_fill_53178_11 rfl ?_
    refine QW.iload_n dJ7_fill_53178_12 rfl ?_
    refine FW.iast dJ7_fill_53178_13 sA_29 vc.1 ?_
    replace vc := vc.2
    refine QW.iinc (a2 + (1 : Int32)) [some (.ref 29), some (.int a1), some (.int (a2 + (1 : Int32))), some (.int a3)] dJ7_fill_53178_14 rfl rfl (by decide) rfl rfl ?_
    refine QW.goto 5 dJ7_fill_53178_17 rfl ?_
    exact vc
theorem vJ7_fill_53178_r23_0 {g : QG} {K : Hp → Prop} {h : Hp} {a1 : Int32} (vc : FW g mJ7_fill_53178 5 [some (.ref 23), some (.int a1), some (.int (0 : Int32)), some (.int (6 : Int32))] [] h (q_RV K)) : FW g mJ7_fill_53178 0 [some (.ref 23), some (.int a1), none, none] [] h (q_RV K) := by
  refine QW.iconst (0 : Int32) rfl dJ7_fill_53178_0 ?_
  refine QW.istore_n [some (.ref 23), some (.int a1), some (.int (0 : Int32)), none] dJ7_fill_53178_1 (by decide) rfl rfl ?_
  refine QW.aload_n dJ7_fill_53178_2 rfl ?_
  refine FW.alen (6 : Int32) dJ7_fill_53178_3 sA_23 rfl ?_
  refine QW.istore_n [some (.ref 23), some (.int a1), some (.int (0 : Int32)), some (.int (6 : Int32))] dJ7_fill_53178_4 (by decide) rfl rfl ?_
  exact vc
theorem vJ7_fill_53178_r23_5 {g : QG} {K : Hp → Prop} {h : Hp} {a1 a2 a3 : Int32} (vc : (a3 ≤ a2 → K h) ∧ (¬ a3 ≤ a2 → vp_in a2 6 ∧ FW g mJ7_fill_53178 5 [some (.ref 23), some (.int a1), some (.int (a2 + (1 : Int32))), some (.int a3)] [] (q_up h 23 a2.toNatClampNeg a1) (q_RV K))) : FW g mJ7_fill_53178 5 [some (.ref 23), some (.int a1), some (.int a2), some (.int a3)] [] h (q_RV K) := by
  refine QW.iload_n dJ7_fill_53178_5 rfl ?_
  refine QW.iload_n dJ7_fill_53178_6 rfl ?_
  refine QW.icmp_ge 20 dJ7_fill_53178_7 rfl (fun hc => ?_) (fun hc => ?_)
  · replace vc := vc.1 hc
    exact FW.retV dJ7_fill_53178_20 rfl vc
  · replace vc := vc.2 hc
    refine QW.aload_n dJ7_fill_53178_10 rfl ?_
    refine QW.iload_n dJ7_fill_53178_11 rfl ?_
    refine QW.iload_n dJ7_fill_53178_12 rfl ?_
    refine FW.iast dJ7_fill_53178_13 sA_23 vc.1 ?_
    replace vc := vc.2
    refine QW.iinc (a2 + (1 : Int32)) [some (.ref 23), some (.int a1), some (.int (a2 + (1 : Int32))), some (.int a3)] dJ7_fill_53178_14 rfl rfl (by decide) rfl rfl ?_
    refine QW.goto 5 dJ7_fill_53178_17 rfl ?_
    exact vc
theorem vX1_nobodyWouldChange_0 {g : QG} {K : Int32 → Hp → Prop} {h : Hp} {a1 : Int32} (vc : FW g mX1_nobodyWouldChange 2 [some (.ref 24), some (.int a1), some (.int (0 : Int32)), none] [] h (q_RI K)) : FW g mX1_nobodyWouldChange 0 [some (.ref 24), some (.int a1), none, none] [] h (q_RI K) := by
  refine QW.iconst (0 : Int32) rfl dX1_nobodyWouldChange_0 ?_
  refine QW.istore_n [some (.ref 24), some (.int a1), some (.int (0 : Int32)), none] dX1_nobodyWouldChange_1 (by decide) rfl rfl ?_
  exact vc
theorem vX1_nobodyWouldChange_2 {g : QG} {K : Int32 → Hp → Prop} {h : Hp} {a1 a2 : Int32} (vc : ((h 1 2) ≤ a2 → K (1 : Int32) h) ∧ (¬ (h 1 2) ≤ a2 → vp_in (((a1 ^^^ ((1 : Int32) <<< (a2 &&& 31))) * (6 : Int32)) + a2) 384 ∧ vp_in ((a1 * (6 : Int32)) + a2) 384 ∧ ((h 25 (((a1 * (6 : Int32)) + a2).toNatClampNeg)) ≤ (h 25 ((((a1 ^^^ ((1 : Int32) <<< (a2 &&& 31))) * (6 : Int32)) + a2).toNatClampNeg)) → FW g mX1_nobodyWouldChange 2 [some (.ref 24), some (.int a1), some (.int (a2 + (1 : Int32))), none] [] h (q_RI K)) ∧ (¬ (h 25 (((a1 * (6 : Int32)) + a2).toNatClampNeg)) ≤ (h 25 ((((a1 ^^^ ((1 : Int32) <<< (a2 &&& 31))) * (6 : Int32)) + a2).toNatClampNeg)) → K (0 : Int32) h))) : FW g mX1_nobodyWouldChange 2 [some (.ref 24), some (.int a1), some (.int a2), none] [] h (q_RI K) := by
  refine QW.iload_n dX1_nobodyWouldChange_2 rfl ?_
  refine QW.aload_n dX1_nobodyWouldChange_3 rfl ?_
  refine FW.getR dX1_nobodyWouldChange_4 lfX1_15 sR_24_0 ?_
  refine FW.getI (h 1 2) dX1_nobodyWouldChange_7 lfX1_57 sI_1_2 rfl ?_
  refine QW.icmp_ge 52 dX1_nobodyWouldChange_10 rfl (fun hc => ?_) (fun hc => ?_)
  · replace vc := vc.1 hc
    refine QW.iconst (1 : Int32) rfl dX1_nobodyWouldChange_52 ?_
    exact FW.retZ (Or.inr rfl) dX1_nobodyWouldChange_53 rfl vc
  · replace vc := vc.2 hc
    refine QW.iload_n dX1_nobodyWouldChange_13 rfl ?_
    refine QW.iconst (1 : Int32) rfl dX1_nobodyWouldChange_14 ?_
    refine QW.iload_n dX1_nobodyWouldChange_15 rfl ?_
    refine QW.ishl dX1_nobodyWouldChange_16 ?_
    refine QW.ixor dX1_nobodyWouldChange_17 ?_
    refine QW.istore_n [some (.ref 24), some (.int a1), some (.int a2), some (.int (a1 ^^^ ((1 : Int32) <<< (a2 &&& 31))))] dX1_nobodyWouldChange_18 (by decide) rfl rfl ?_
    refine QW.aload_n dX1_nobodyWouldChange_19 rfl ?_
    refine FW.getR dX1_nobodyWouldChange_20 lfX1_9 sR_24_2 ?_
    refine QW.iload_n dX1_nobodyWouldChange_23 rfl ?_
    refine QW.bipush (6 : Int32) rfl dX1_nobodyWouldChange_24 ?_
    refine QW.imul dX1_nobodyWouldChange_26 ?_
    refine QW.iload_n dX1_nobodyWouldChange_27 rfl ?_
    refine QW.iadd dX1_nobodyWouldChange_28 ?_
    refine FW.iald (h 25 ((((a1 ^^^ ((1 : Int32) <<< (a2 &&& 31))) * (6 : Int32)) + a2).toNatClampNeg)) dX1_nobodyWouldChange_29 sA_25 vc.1 rfl ?_
    replace vc := vc.2
    refine QW.aload_n dX1_nobodyWouldChange_30 rfl ?_
    refine FW.getR dX1_nobodyWouldChange_31 lfX1_9 sR_24_2 ?_
    refine QW.iload_n dX1_nobodyWouldChange_34 rfl ?_
    refine QW.bipush (6 : Int32) rfl dX1_nobodyWouldChange_35 ?_
    refine QW.imul dX1_nobodyWouldChange_37 ?_
    refine QW.iload_n dX1_nobodyWouldChange_38 rfl ?_
    refine QW.iadd dX1_nobodyWouldChange_39 ?_
    refine FW.iald (h 25 (((a1 * (6 : Int32)) + a2).toNatClampNeg)) dX1_nobodyWouldChange_40 sA_25 vc.1 rfl ?_
    replace vc := vc.2
    refine QW.icmp_ge 46 dX1_nobodyWouldChange_41 rfl (fun hc => ?_) (fun hc => ?_)
    · replace vc := vc.1 hc
      refine QW.iinc (a2 + (1 : Int32)) [some (.ref 24), some (.int a1), some (.int (a2 + (1 : Int32))), some (.int (a1 ^^^ ((1 : Int32) <<< (a2 &&& 31))))] dX1_nobodyWouldChange_46 rfl rfl (by decide) rfl rfl ?_
      refine QW.goto 2 dX1_nobodyWouldChange_49 rfl ?_
      exact QW.sub (by exact ⟨rfl, ⟨rfl, ⟨rfl, trivial⟩⟩⟩) vc
    · replace vc := vc.2 hc
      refine QW.iconst (0 : Int32) rfl dX1_nobodyWouldChange_44 ?_
      exact FW.retZ (Or.inl rfl) dX1_nobodyWouldChange_45 rfl vc
theorem vJ9_max_7cf53_0 {g : QG} {K : Int32 → Hp → Prop} {h : Hp} {a0 a1 : Int32} (vc : (a0 < a1 → K a1 h) ∧ (¬ a0 < a1 → K a0 h)) : FW g mJ9_max_7cf53 0 [some (.int a0), some (.int a1)] [] h (q_RI K) := by
  refine QW.iload_n dJ9_max_7cf53_0 rfl ?_
  refine QW.iload_n dJ9_max_7cf53_1 rfl ?_
  refine QW.icmp_lt 9 dJ9_max_7cf53_2 rfl (fun hc => ?_) (fun hc => ?_)
  · replace vc := vc.1 hc
    refine QW.iload_n dJ9_max_7cf53_9 rfl ?_
    exact FW.ret dJ9_max_7cf53_10 rfl vc
  · replace vc := vc.2 hc
    refine QW.iload_n dJ9_max_7cf53_5 rfl ?_
    refine QW.goto 10 dJ9_max_7cf53_6 rfl ?_
    exact FW.ret dJ9_max_7cf53_10 rfl vc
theorem vX4_fit_0 {g : QG} {K : Int32 → Hp → Prop} {h : Hp} {a1 : Int32} (vc : FW g mX4_fit 2 [some (.ref 41), some (.int a1), some (.int (0 : Int32))] [] h (q_RI K)) : FW g mX4_fit 0 [some (.ref 41), some (.int a1), none] [] h (q_RI K) := by
  refine QW.iconst (0 : Int32) rfl dX4_fit_0 ?_
  refine QW.istore_n [some (.ref 41), some (.int a1), some (.int (0 : Int32))] dX4_fit_1 (by decide) rfl rfl ?_
  exact vc
theorem vX4_fit_2 {g : QG} {K : Int32 → Hp → Prop} {h : Hp} {a1 a2 : Int32} (vc : ((h 41 0) ≤ a2 → K (1 : Int32) h) ∧ (¬ (h 41 0) ≤ a2 → vp_in a2 6 ∧ vp_in a2 6 ∧ (((a1 >>> ((h 42 a2.toNatClampNeg) &&& 31)) &&& (1 : Int32)) = (h 43 a2.toNatClampNeg) → FW g mX4_fit 2 [some (.ref 41), some (.int a1), some (.int (a2 + (1 : Int32)))] [] h (q_RI K)) ∧ (¬ ((a1 >>> ((h 42 a2.toNatClampNeg) &&& 31)) &&& (1 : Int32)) = (h 43 a2.toNatClampNeg) → K (0 : Int32) h))) : FW g mX4_fit 2 [some (.ref 41), some (.int a1), some (.int a2)] [] h (q_RI K) := by
  refine QW.iload_n dX4_fit_2 rfl ?_
  refine QW.aload_n dX4_fit_3 rfl ?_
  refine FW.getI (h 41 0) dX4_fit_4 lfX4_18 sI_41_0 rfl ?_
  refine QW.icmp_ge 37 dX4_fit_7 rfl (fun hc => ?_) (fun hc => ?_)
  · replace vc := vc.1 hc
    refine QW.iconst (1 : Int32) rfl dX4_fit_37 ?_
    exact FW.retZ (Or.inr rfl) dX4_fit_38 rfl vc
  · replace vc := vc.2 hc
    refine QW.iload_n dX4_fit_10 rfl ?_
    refine QW.aload_n dX4_fit_11 rfl ?_
    refine FW.getR dX4_fit_12 lfX4_9 sR_41_1 ?_
    refine QW.iload_n dX4_fit_15 rfl ?_
    refine FW.iald (h 42 a2.toNatClampNeg) dX4_fit_16 sA_42 vc.1 rfl ?_
    replace vc := vc.2
    refine QW.ishr dX4_fit_17 ?_
    refine QW.iconst (1 : Int32) rfl dX4_fit_18 ?_
    refine QW.iand dX4_fit_19 ?_
    refine QW.aload_n dX4_fit_20 rfl ?_
    refine FW.getR dX4_fit_21 lfX4_15 sR_41_2 ?_
    refine QW.iload_n dX4_fit_24 rfl ?_
    refine FW.iald (h 43 a2.toNatClampNeg) dX4_fit_25 sA_43 vc.1 rfl ?_
    replace vc := vc.2
    refine QW.icmp_eq 31 dX4_fit_26 rfl (fun hc => ?_) (fun hc => ?_)
    · replace vc := vc.1 hc
      refine QW.iinc (a2 + (1 : Int32)) [some (.ref 41), some (.int a1), some (.int (a2 + (1 : Int32)))] dX4_fit_31 rfl rfl (by decide) rfl rfl ?_
      refine QW.goto 2 dX4_fit_34 rfl ?_
      exact vc
    · replace vc := vc.2 hc
      refine QW.iconst (0 : Int32) rfl dX4_fit_29 ?_
      exact FW.retZ (Or.inl rfl) dX4_fit_30 rfl vc
theorem vX5_isLetter_0 {g : QG} {K : Int32 → Hp → Prop} {h : Hp} {a0 : Int32} (vc : (a0 < (97 : Int32) → K (0 : Int32) h) ∧ (¬ a0 < (97 : Int32) → ((122 : Int32) < a0 → K (0 : Int32) h) ∧ (¬ (122 : Int32) < a0 → K (1 : Int32) h))) : FW g mX5_isLetter 0 [some (.int a0)] [] h (q_RI K) := by
  refine QW.iload_n dX5_isLetter_0 rfl ?_
  refine QW.bipush (97 : Int32) rfl dX5_isLetter_1 ?_
  refine QW.icmp_lt 16 dX5_isLetter_3 rfl (fun hc => ?_) (fun hc => ?_)
  · replace vc := vc.1 hc
    refine QW.iconst (0 : Int32) rfl dX5_isLetter_16 ?_
    exact FW.retZ (Or.inl rfl) dX5_isLetter_17 rfl vc
  · replace vc := vc.2 hc
    refine QW.iload_n dX5_isLetter_6 rfl ?_
    refine QW.bipush (122 : Int32) rfl dX5_isLetter_7 ?_
    refine QW.icmp_gt 16 dX5_isLetter_9 rfl (fun hc => ?_) (fun hc => ?_)
    · replace vc := vc.1 hc
      refine QW.iconst (0 : Int32) rfl dX5_isLetter_16 ?_
      exact FW.retZ (Or.inl rfl) dX5_isLetter_17 rfl vc
    · replace vc := vc.2 hc
      refine QW.iconst (1 : Int32) rfl dX5_isLetter_12 ?_
      refine QW.goto 17 dX5_isLetter_13 rfl ?_
      exact FW.retZ (Or.inr rfl) dX5_isLetter_17 rfl vc
theorem vX5_isDigit_0 {g : QG} {K : Int32 → Hp → Prop} {h : Hp} {a0 : Int32} (vc : (a0 < (48 : Int32) → K (0 : Int32) h) ∧ (¬ a0 < (48 : Int32) → ((57 : Int32) < a0 → K (0 : Int32) h) ∧ (¬ (57 : Int32) < a0 → K (1 : Int32) h))) : FW g mX5_isDigit 0 [some (.int a0)] [] h (q_RI K) := by
  refine QW.iload_n dX5_isDigit_0 rfl ?_
  refine QW.bipush (48 : Int32) rfl dX5_isDigit_1 ?_
  refine QW.icmp_lt 16 dX5_isDigit_3 rfl (fun hc => ?_) (fun hc => ?_)
  · replace vc := vc.1 hc
    refine QW.iconst (0 : Int32) rfl dX5_isDigit_16 ?_
    exact FW.retZ (Or.inl rfl) dX5_isDigit_17 rfl vc
  · replace vc := vc.2 hc
    refine QW.iload_n dX5_isDigit_6 rfl ?_
    refine QW.bipush (57 : Int32) rfl dX5_isDigit_7 ?_
    refine QW.icmp_gt 16 dX5_isDigit_9 rfl (fun hc => ?_) (fun hc => ?_)
    · replace vc := vc.1 hc
      refine QW.iconst (0 : Int32) rfl dX5_isDigit_16 ?_
      exact FW.retZ (Or.inl rfl) dX5_isDigit_17 rfl vc
    · replace vc := vc.2 hc
      refine QW.iconst (1 : Int32) rfl dX5_isDigit_12 ?_
      refine QW.goto 17 dX5_isDigit_13 rfl ?_
      exact FW.retZ (Or.inr rfl) dX5_isDigit_17 rfl vc
theorem vX8_isWord_0 {g : QG} {K : Int32 → Hp → Prop} {h : Hp} {a1 a2 : Int32} (vc : (¬ ((h 44 16) - (h 44 15)) = a2 → FW g mX8_isWord 22 [some (.ref 44), some (.int a1), some (.int a2), some (.int (0 : Int32)), some (.int (0 : Int32))] [] h (q_RI K)) ∧ (((h 44 16) - (h 44 15)) = a2 → FW g mX8_isWord 22 [some (.ref 44), some (.int a1), some (.int a2), some (.int (1 : Int32)), some (.int (0 : Int32))] [] h (q_RI K))) : FW g mX8_isWord 0 [some (.ref 44), some (.int a1), some (.int a2), none, none] [] h (q_RI K) := by
  refine QW.aload_n dX8_isWord_0 rfl ?_
  refine FW.getI (h 44 16) dX8_isWord_1 lfX8_94 sI_44_16 rfl ?_
  refine QW.aload_n dX8_isWord_4 rfl ?_
  refine FW.getI (h 44 15) dX8_isWord_5 lfX8_87 sI_44_15 rfl ?_
  refine QW.isub dX8_isWord_8 ?_
  refine QW.iload_n dX8_isWord_9 rfl ?_
  refine QW.icmp_ne 17 dX8_isWord_10 rfl (fun hc => ?_) (fun hc => ?_)
  · replace vc := vc.1 hc
    refine QW.iconst (0 : Int32) rfl dX8_isWord_17 ?_
    refine QW.istore_n [some (.ref 44), some (.int a1), some (.int a2), some (.int (0 : Int32)), none] dX8_isWord_18 (by decide) rfl rfl ?_
    refine QW.iconst (0 : Int32) rfl dX8_isWord_19 ?_
    refine QW.istore [some (.ref 44), some (.int a1), some (.int a2), some (.int (0 : Int32)), some (.int (0 : Int32))] dX8_isWord_20 (by decide) rfl rfl ?_
    exact vc
  · replace vc := vc.2 hc
    refine QW.iconst (1 : Int32) rfl dX8_isWord_13 ?_
    refine QW.goto 18 dX8_isWord_14 rfl ?_
    refine QW.istore_n [some (.ref 44), some (.int a1), some (.int a2), some (.int (1 : Int32)), none] dX8_isWord_18 (by decide) rfl rfl ?_
    refine QW.iconst (0 : Int32) rfl dX8_isWord_19 ?_
    refine QW.istore [some (.ref 44), some (.int a1), some (.int a2), some (.int (1 : Int32)), some (.int (0 : Int32))] dX8_isWord_20 (by decide) rfl rfl ?_
    exact vc
theorem vX8_isWord_22 {g : QG} {K : Int32 → Hp → Prop} {h : Hp} {a1 a2 a3 a4 : Int32} (vc : (a3 = 0 → q_bool a3 ∧ K a3 h) ∧ (¬ a3 = 0 → (a2 ≤ a4 → q_bool a3 ∧ K a3 h) ∧ (¬ a2 ≤ a4 → vp_in ((h 44 15) + a4) 200 ∧ (¬ (h 47 (((h 44 15) + a4).toNatClampNeg)) = ((96 : Int32) + ((a1 >>> (((5 : Int32) * a4) &&& 31)) &&& (31 : Int32))) → FW g mX8_isWord 22 [some (.ref 44), some (.int a1), some (.int a2), some (.int (0 : Int32)), some (.int (a4 + (1 : Int32)))] [] h (q_RI K)) ∧ ((h 47 (((h 44 15) + a4).toNatClampNeg)) = ((96 : Int32) + ((a1 >>> (((5 : Int32) * a4) &&& 31)) &&& (31 : Int32))) → FW g mX8_isWord 22 [some (.ref 44), some (.int a1), some (.int a2), some (.int (1 : Int32)), some (.int (a4 + (1 : Int32)))] [] h (q_RI K))))) : FW g mX8_isWord 22 [some (.ref 44), some (.int a1), some (.int a2), some (.int a3), some (.int a4)] [] h (q_RI K) := by
  refine QW.iload_n dX8_isWord_22 rfl ?_
  refine QW.if_eq 71 dX8_isWord_23 rfl (fun hc => ?_) (fun hc => ?_)
  · replace vc := vc.1 hc
    refine QW.iload_n dX8_isWord_71 rfl ?_
    exact FW.retZ vc.1 dX8_isWord_72 rfl vc.2
  · replace vc := vc.2 hc
    refine QW.iload dX8_isWord_26 rfl ?_
    refine QW.iload_n dX8_isWord_28 rfl ?_
    refine QW.icmp_ge 71 dX8_isWord_29 rfl (fun hc => ?_) (fun hc => ?_)
    · replace vc := vc.1 hc
      refine QW.iload_n dX8_isWord_71 rfl ?_
      exact FW.retZ vc.1 dX8_isWord_72 rfl vc.2
    · replace vc := vc.2 hc
      refine QW.aload_n dX8_isWord_32 rfl ?_
      refine FW.getR dX8_isWord_33 lfX8_17 sR_44_2 ?_
      refine QW.aload_n dX8_isWord_36 rfl ?_
      refine FW.getI (h 44 15) dX8_isWord_37 lfX8_87 sI_44_15 rfl ?_
      refine QW.iload dX8_isWord_40 rfl ?_
      refine QW.iadd dX8_isWord_42 ?_
      refine FW.iald (h 47 (((h 44 15) + a4).toNatClampNeg)) dX8_isWord_43 sA_47 vc.1 rfl ?_
      replace vc := vc.2
      refine QW.bipush (96 : Int32) rfl dX8_isWord_44 ?_
      refine QW.iload_n dX8_isWord_46 rfl ?_
      refine QW.iconst (5 : Int32) rfl dX8_isWord_47 ?_
      refine QW.iload dX8_isWord_48 rfl ?_
      refine QW.imul dX8_isWord_50 ?_
      refine QW.ishr dX8_isWord_51 ?_
      refine QW.bipush (31 : Int32) rfl dX8_isWord_52 ?_
      refine QW.iand dX8_isWord_54 ?_
      refine QW.iadd dX8_isWord_55 ?_
      refine QW.icmp_ne 63 dX8_isWord_56 rfl (fun hc => ?_) (fun hc => ?_)
      · replace vc := vc.1 hc
        refine QW.iconst (0 : Int32) rfl dX8_isWord_63 ?_
        refine QW.istore_n [some (.ref 44), some (.int a1), some (.int a2), some (.int (0 : Int32)), some (.int a4)] dX8_isWord_64 (by decide) rfl rfl ?_
        refine QW.iinc (a4 + (1 : Int32)) [some (.ref 44), some (.int a1), some (.int a2), some (.int (0 : Int32)), some (.int (a4 + (1 : Int32)))] dX8_isWord_65 rfl rfl (by decide) rfl rfl ?_
        refine QW.goto 22 dX8_isWord_68 rfl ?_
        exact vc
      · replace vc := vc.2 hc
        refine QW.iconst (1 : Int32) rfl dX8_isWord_59 ?_
        refine QW.goto 64 dX8_isWord_60 rfl ?_
        refine QW.istore_n [some (.ref 44), some (.int a1), some (.int a2), some (.int (1 : Int32)), some (.int a4)] dX8_isWord_64 (by decide) rfl rfl ?_
        refine QW.iinc (a4 + (1 : Int32)) [some (.ref 44), some (.int a1), some (.int a2), some (.int (1 : Int32)), some (.int (a4 + (1 : Int32)))] dX8_isWord_65 rfl rfl (by decide) rfl rfl ?_
        refine QW.goto 22 dX8_isWord_68 rfl ?_
        exact vc
theorem vJ9_floorMod_7cf53_0 {g : QG} {K : Int32 → Hp → Prop} {h : Hp} {a0 a1 : Int32} (vc : (¬ a1 = 0) ∧ (0 ≤ (a0 ^^^ a1) → K (a0 - a0 / a1 * a1) h) ∧ (¬ 0 ≤ (a0 ^^^ a1) → ((a0 - a0 / a1 * a1) = 0 → K (a0 - a0 / a1 * a1) h) ∧ (¬ (a0 - a0 / a1 * a1) = 0 → K ((a0 - a0 / a1 * a1) + a1) h))) : FW g mJ9_floorMod_7cf53 0 [some (.int a0), some (.int a1), none] [] h (q_RI K) := by
  refine QW.iload_n dJ9_floorMod_7cf53_0 rfl ?_
  refine QW.iload_n dJ9_floorMod_7cf53_1 rfl ?_
  refine QW.irem vc.1 dJ9_floorMod_7cf53_2 ?_
  replace vc := vc.2
  refine QW.istore_n [some (.int a0), some (.int a1), some (.int (a0 - a0 / a1 * a1))] dJ9_floorMod_7cf53_3 (by decide) rfl rfl ?_
  refine QW.iload_n dJ9_floorMod_7cf53_4 rfl ?_
  refine QW.iload_n dJ9_floorMod_7cf53_5 rfl ?_
  refine QW.ixor dJ9_floorMod_7cf53_6 ?_
  refine QW.if_ge 18 dJ9_floorMod_7cf53_7 rfl (fun hc => ?_) (fun hc => ?_)
  · replace vc := vc.1 hc
    refine QW.iload_n dJ9_floorMod_7cf53_18 rfl ?_
    exact FW.ret dJ9_floorMod_7cf53_19 rfl vc
  · replace vc := vc.2 hc
    refine QW.iload_n dJ9_floorMod_7cf53_10 rfl ?_
    refine QW.if_eq 18 dJ9_floorMod_7cf53_11 rfl (fun hc => ?_) (fun hc => ?_)
    · replace vc := vc.1 hc
      refine QW.iload_n dJ9_floorMod_7cf53_18 rfl ?_
      exact FW.ret dJ9_floorMod_7cf53_19 rfl vc
    · replace vc := vc.2 hc
      refine QW.iload_n dJ9_floorMod_7cf53_14 rfl ?_
      refine QW.iload_n dJ9_floorMod_7cf53_15 rfl ?_
      refine QW.iadd dJ9_floorMod_7cf53_16 ?_
      exact FW.ret dJ9_floorMod_7cf53_17 rfl vc
theorem vX2_minutesLikeTo_0 {g : QG} {K : Int32 → Hp → Prop} {h : Hp} {a1 a2 : Int32} (vc : (a2 < a1 → K (0 : Int32) h) ∧ (¬ a2 < a1 → ((1 : Int32) ≤ (h 1 0) → (¬ (h 1 0) = 0) ∧ K (((a2 - a1) / (h 1 0)) + (1 : Int32)) h) ∧ (¬ (1 : Int32) ≤ (h 1 0) → K (0 : Int32) h))) : FW g mX2_minutesLikeTo 0 [some (.ref 20), some (.int a1), some (.int a2)] [] h (q_RI K) := by
  refine QW.iload_n dX2_minutesLikeTo_0 rfl ?_
  refine QW.iload_n dX2_minutesLikeTo_1 rfl ?_
  refine QW.icmp_lt 16 dX2_minutesLikeTo_2 rfl (fun hc => ?_) (fun hc => ?_)
  · replace vc := vc.1 hc
    refine QW.iconst (0 : Int32) rfl dX2_minutesLikeTo_16 ?_
    refine QW.goto 33 dX2_minutesLikeTo_17 rfl ?_
    exact FW.ret dX2_minutesLikeTo_33 rfl vc
  · replace vc := vc.2 hc
    refine QW.aload_n dX2_minutesLikeTo_5 rfl ?_
    refine FW.getR dX2_minutesLikeTo_6 lfX2_21 sR_20_0 ?_
    refine FW.getI (h 1 0) dX2_minutesLikeTo_9 lfX2_80 sI_1_0 rfl ?_
    refine QW.iconst (1 : Int32) rfl dX2_minutesLikeTo_12 ?_
    refine QW.icmp_ge 20 dX2_minutesLikeTo_13 rfl (fun hc => ?_) (fun hc => ?_)
    · replace vc := vc.1 hc
      refine QW.iload_n dX2_minutesLikeTo_20 rfl ?_
      refine QW.iload_n dX2_minutesLikeTo_21 rfl ?_
      refine QW.isub dX2_minutesLikeTo_22 ?_
      refine QW.aload_n dX2_minutesLikeTo_23 rfl ?_
      refine FW.getR dX2_minutesLikeTo_24 lfX2_21 sR_20_0 ?_
      refine FW.getI (h 1 0) dX2_minutesLikeTo_27 lfX2_80 sI_1_0 rfl ?_
      refine QW.idiv vc.1 dX2_minutesLikeTo_30 ?_
      replace vc := vc.2
      refine QW.iconst (1 : Int32) rfl dX2_minutesLikeTo_31 ?_
      refine QW.iadd dX2_minutesLikeTo_32 ?_
      exact FW.ret dX2_minutesLikeTo_33 rfl vc
    · replace vc := vc.2 hc
      refine QW.iconst (0 : Int32) rfl dX2_minutesLikeTo_16 ?_
      refine QW.goto 33 dX2_minutesLikeTo_17 rfl ?_
      exact FW.ret dX2_minutesLikeTo_33 rfl vc
theorem vJ9_min_7cf53_0 {g : QG} {K : Int32 → Hp → Prop} {h : Hp} {a0 a1 : Int32} (vc : (a1 < a0 → K a1 h) ∧ (¬ a1 < a0 → K a0 h)) : FW g mJ9_min_7cf53 0 [some (.int a0), some (.int a1)] [] h (q_RI K) := by
  refine QW.iload_n dJ9_min_7cf53_0 rfl ?_
  refine QW.iload_n dJ9_min_7cf53_1 rfl ?_
  refine QW.icmp_gt 9 dJ9_min_7cf53_2 rfl (fun hc => ?_) (fun hc => ?_)
  · replace vc := vc.1 hc
    refine QW.iload_n dJ9_min_7cf53_9 rfl ?_
    exact FW.ret dJ9_min_7cf53_10 rfl vc
  · replace vc := vc.2 hc
    refine QW.iload_n dJ9_min_7cf53_5 rfl ?_
    refine QW.goto 10 dJ9_min_7cf53_6 rfl ?_
    exact FW.ret dJ9_min_7cf53_10 rfl vc
theorem vX6_addGuest_0 {g : QG} {K : Int32 → Hp → Prop} {h : Hp} {a1 : Int32} (vc : ((6 : Int32) ≤ (h 9 2) → K (0 : Int32) h) ∧ (¬ (6 : Int32) ≤ (h 9 2) → ((4 : Int32) ≤ (4 : Int32) → vp_in (h 9 2) 6 ∧ vp_in (h 9 2) 6 ∧ vp_in (h 9 2) 6 ∧ vp_in (h 9 2) 6 ∧ vp_in (h 9 2) 6 ∧ K (1 : Int32) (q_up (q_up (q_up (q_up (q_up (q_up h 10 ((h 9 2).toNatClampNeg) a1) 11 ((h 9 2).toNatClampNeg) (h 15 0)) 12 ((h 9 2).toNatClampNeg) (h 15 1)) 13 ((h 9 2).toNatClampNeg) (h 15 2)) 14 ((h 9 2).toNatClampNeg) (h 15 3)) 9 2 ((h 9 2) + (1 : Int32)))) ∧ (¬ (4 : Int32) ≤ (4 : Int32) → K (0 : Int32) h))) : FW g mX6_addGuest 0 [some (.ref 9), some (.int a1), some (.ref 15)] [] h (q_RI K) := by
  refine QW.aload_n dX6_addGuest_0 rfl ?_
  refine FW.getI (h 9 2) dX6_addGuest_1 lfX6_34 sI_9_2 rfl ?_
  refine QW.bipush (6 : Int32) rfl dX6_addGuest_4 ?_
  refine QW.icmp_ge 15 dX6_addGuest_6 rfl (fun hc => ?_) (fun hc => ?_)
  · replace vc := vc.1 hc
    refine QW.iconst (0 : Int32) rfl dX6_addGuest_15 ?_
    exact FW.retZ (Or.inl rfl) dX6_addGuest_16 rfl vc
  · replace vc := vc.2 hc
    refine QW.aload_n dX6_addGuest_9 rfl ?_
    refine FW.alen (4 : Int32) dX6_addGuest_10 sA_15 rfl ?_
    refine QW.iconst (4 : Int32) rfl dX6_addGuest_11 ?_
    refine QW.icmp_ge 17 dX6_addGuest_12 rfl (fun hc => ?_) (fun hc => ?_)
    · replace vc := vc.1 hc
      refine QW.aload_n dX6_addGuest_17 rfl ?_
      refine FW.getR dX6_addGuest_18 lfX6_15 sR_9_3 ?_
      refine QW.aload_n dX6_addGuest_21 rfl ?_
      refine FW.getI (h 9 2) dX6_addGuest_22 lfX6_34 sI_9_2 rfl ?_
      refine QW.iload_n dX6_addGuest_25 rfl ?_
      refine FW.iast dX6_addGuest_26 sA_10 vc.1 ?_
      replace vc := vc.2
      refine QW.aload_n dX6_addGuest_27 rfl ?_
      refine FW.getR dX6_addGuest_28 lfX6_19 sR_9_4 ?_
      refine QW.aload_n dX6_addGuest_31 rfl ?_
      refine FW.getI (h 9 2) dX6_addGuest_32 lfX6_34 sI_9_2 rfl ?_
      refine QW.aload_n dX6_addGuest_35 rfl ?_
      refine QW.iconst (0 : Int32) rfl dX6_addGuest_36 ?_
      refine FW.iald (h 15 0) dX6_addGuest_37 sA_15 (by unfold vp_in; decide) rfl ?_
      refine FW.iast dX6_addGuest_38 sA_11 vc.1 ?_
      replace vc := vc.2
      refine QW.aload_n dX6_addGuest_39 rfl ?_
      refine FW.getR dX6_addGuest_40 lfX6_22 sR_9_5 ?_
      refine QW.aload_n dX6_addGuest_43 rfl ?_
      refine FW.getI (h 9 2) dX6_addGuest_44 lfX6_34 sI_9_2 rfl ?_
      refine QW.aload_n dX6_addGuest_47 rfl ?_
      refine QW.iconst (1 : Int32) rfl dX6_addGuest_48 ?_
      refine FW.iald (h 15 1) dX6_addGuest_49 sA_15 (by unfold vp_in; decide) rfl ?_
      refine FW.iast dX6_addGuest_50 sA_12 vc.1 ?_
      replace vc := vc.2
      refine QW.aload_n dX6_addGuest_51 rfl ?_
      refine FW.getR dX6_addGuest_52 lfX6_25 sR_9_6 ?_
      refine QW.aload_n dX6_addGuest_55 rfl ?_
      refine FW.getI (h 9 2) dX6_addGuest_56 lfX6_34 sI_9_2 rfl ?_
      refine QW.aload_n dX6_addGuest_59 rfl ?_
      refine QW.iconst (2 : Int32) rfl dX6_addGuest_60 ?_
      refine FW.iald (h 15 2) dX6_addGuest_61 sA_15 (by unfold vp_in; decide) rfl ?_
      refine FW.iast dX6_addGuest_62 sA_13 vc.1 ?_
      replace vc := vc.2
      refine QW.aload_n dX6_addGuest_63 rfl ?_
      refine FW.getR dX6_addGuest_64 lfX6_28 sR_9_7 ?_
      refine QW.aload_n dX6_addGuest_67 rfl ?_
      refine FW.getI (h 9 2) dX6_addGuest_68 lfX6_34 sI_9_2 rfl ?_
      refine QW.aload_n dX6_addGuest_71 rfl ?_
      refine QW.iconst (3 : Int32) rfl dX6_addGuest_72 ?_
      refine FW.iald (h 15 3) dX6_addGuest_73 sA_15 (by unfold vp_in; decide) rfl ?_
      refine FW.iast dX6_addGuest_74 sA_14 vc.1 ?_
      replace vc := vc.2
      refine QW.aload_n dX6_addGuest_75 rfl ?_
      refine QW.dupr dX6_addGuest_76 ?_
      refine FW.getI (h 9 2) dX6_addGuest_77 lfX6_34 sI_9_2 rfl ?_
      refine QW.iconst (1 : Int32) rfl dX6_addGuest_80 ?_
      refine QW.iadd dX6_addGuest_81 ?_
      refine FW.putI dX6_addGuest_82 lfX6_34 sP_9_2 ?_
      refine QW.iconst (1 : Int32) rfl dX6_addGuest_85 ?_
      exact FW.retZ (Or.inr rfl) dX6_addGuest_86 rfl vc
    · replace vc := vc.2 hc
      refine QW.iconst (0 : Int32) rfl dX6_addGuest_15 ?_
      exact FW.retZ (Or.inl rfl) dX6_addGuest_16 rfl vc
theorem vX5_mostOf_0 {g : QG} {K : Int32 → Hp → Prop} {h : Hp} {a1 : Int32} (vc : (a1 = (0 : Int32) → K ((h 9 0) - (1 : Int32)) h) ∧ (¬ a1 = (0 : Int32) → (a1 = (1 : Int32) → K (3 : Int32) h) ∧ (¬ a1 = (1 : Int32) → (a1 = (2 : Int32) → K (1 : Int32) h) ∧ (¬ a1 = (2 : Int32) → K (99 : Int32) h)))) : FW g mX5_mostOf 0 [some (.ref 7), some (.int a1)] [] h (q_RI K) := by
  refine QW.iload_n dX5_mostOf_0 rfl ?_
  by_cases c0 : a1 = (0 : Int32)
  · replace vc := vc.1 c0
    refine QW.tabIn 28 dX5_mostOf_1 (by rw [c0]; decide) (by rw [c0]; decide) (by rw [c0]; rfl) rfl ?_
    refine QW.aload_n dX5_mostOf_28 rfl ?_
    refine FW.getR dX5_mostOf_29 lfX5_18 sR_7_2 ?_
    refine FW.getI (h 9 0) dX5_mostOf_32 lfX5_112 sI_9_0 rfl ?_
    refine QW.iconst (1 : Int32) rfl dX5_mostOf_35 ?_
    refine QW.isub dX5_mostOf_36 ?_
    exact FW.ret dX5_mostOf_37 rfl vc
  · replace vc := vc.2 c0
    by_cases c1 : a1 = (1 : Int32)
    · replace vc := vc.1 c1
      refine QW.tabIn 38 dX5_mostOf_1 (by rw [c1]; decide) (by rw [c1]; decide) (by rw [c1]; rfl) rfl ?_
      refine QW.iconst (3 : Int32) rfl dX5_mostOf_38 ?_
      exact FW.ret dX5_mostOf_39 rfl vc
    · replace vc := vc.2 c1
      by_cases c2 : a1 = (2 : Int32)
      · replace vc := vc.1 c2
        refine QW.tabIn 40 dX5_mostOf_1 (by rw [c2]; decide) (by rw [c2]; decide) (by rw [c2]; rfl) rfl ?_
        refine QW.iconst (1 : Int32) rfl dX5_mostOf_40 ?_
        exact FW.ret dX5_mostOf_41 rfl vc
      · replace vc := vc.2 c2
        refine QW.tabOut 42 dX5_mostOf_1 (by have n0 := lv_neT c0 (a := 0) (by decide); have n1 := lv_neT c1 (a := 1) (by decide); have n2 := lv_neT c2 (a := 2) (by decide); omega) rfl ?_
        refine QW.bipush (99 : Int32) rfl dX5_mostOf_42 ?_
        exact FW.ret dX5_mostOf_44 rfl vc
theorem vX6_beginInn_0 {g : QG} {K : Hp → Prop} {h : Hp} {a1 : Int32} (vc : K (q_up (q_up (q_up h 9 0 a1) 9 1 (0 : Int32)) 9 2 (0 : Int32))) : FW g mX6_beginInn 0 [some (.ref 9), some (.int a1)] [] h (q_RV K) := by
  refine QW.aload_n dX6_beginInn_0 rfl ?_
  refine QW.iload_n dX6_beginInn_1 rfl ?_
  refine FW.putI dX6_beginInn_2 lfX6_9 sP_9_0 ?_
  refine QW.aload_n dX6_beginInn_5 rfl ?_
  refine QW.iconst (0 : Int32) rfl dX6_beginInn_6 ?_
  refine FW.putI dX6_beginInn_7 lfX6_31 sP_9_1 ?_
  refine QW.aload_n dX6_beginInn_10 rfl ?_
  refine QW.iconst (0 : Int32) rfl dX6_beginInn_11 ?_
  refine FW.putI dX6_beginInn_12 lfX6_34 sP_9_2 ?_
  exact FW.retV dX6_beginInn_15 rfl vc
theorem vX3_take_0 {g : QG} {K : Hp → Prop} {h : Hp} {a1 a2 : Int32} (vc : vp_in a2 12 ∧ K (q_up (q_up h 19 a2.toNatClampNeg a1) 16 5 ((h 16 5) &&& (((1 : Int32) <<< (a2 &&& 31)) ^^^ (-1 : Int32))))) : FW g mX3_take 0 [some (.ref 16), some (.int a1), some (.int a2)] [] h (q_RV K) := by
  refine QW.aload_n dX3_take_0 rfl ?_
  refine FW.getR dX3_take_1 lfX3_18 sR_16_3 ?_
  refine QW.iload_n dX3_take_4 rfl ?_
  refine QW.iload_n dX3_take_5 rfl ?_
  refine FW.iast dX3_take_6 sA_19 vc.1 ?_
  replace vc := vc.2
  refine QW.aload_n dX3_take_7 rfl ?_
  refine QW.dupr dX3_take_8 ?_
  refine FW.getI (h 16 5) dX3_take_9 lfX3_35 sI_16_5 rfl ?_
  refine QW.iconst (1 : Int32) rfl dX3_take_12 ?_
  refine QW.iload_n dX3_take_13 rfl ?_
  refine QW.ishl dX3_take_14 ?_
  refine QW.iconst (-1 : Int32) rfl dX3_take_15 ?_
  refine QW.ixor dX3_take_16 ?_
  refine QW.iand dX3_take_17 ?_
  refine FW.putI dX3_take_18 lfX3_35 sP_16_5 ?_
  exact FW.retV dX3_take_21 rfl vc
theorem vX6_hasPlace_r9_0 {g : QG} {K : Int32 → Hp → Prop} {h : Hp} {a1 : Int32} (vc : (a1 < 0 → K (0 : Int32) h) ∧ (¬ a1 < 0 → ((h 9 0) ≤ a1 → K (0 : Int32) h) ∧ (¬ (h 9 0) ≤ a1 → K (1 : Int32) h))) : FW g mX6_hasPlace 0 [some (.ref 9), some (.int a1)] [] h (q_RI K) := by
  refine QW.iload_n dX6_hasPlace_0 rfl ?_
  refine QW.if_lt 16 dX6_hasPlace_1 rfl (fun hc => ?_) (fun hc => ?_)
  · replace vc := vc.1 hc
    refine QW.iconst (0 : Int32) rfl dX6_hasPlace_16 ?_
    exact FW.retZ (Or.inl rfl) dX6_hasPlace_17 rfl vc
  · replace vc := vc.2 hc
    refine QW.iload_n dX6_hasPlace_4 rfl ?_
    refine QW.aload_n dX6_hasPlace_5 rfl ?_
    refine FW.getI (h 9 0) dX6_hasPlace_6 lfX6_9 sI_9_0 rfl ?_
    refine QW.icmp_ge 16 dX6_hasPlace_9 rfl (fun hc => ?_) (fun hc => ?_)
    · replace vc := vc.1 hc
      refine QW.iconst (0 : Int32) rfl dX6_hasPlace_16 ?_
      exact FW.retZ (Or.inl rfl) dX6_hasPlace_17 rfl vc
    · replace vc := vc.2 hc
      refine QW.iconst (1 : Int32) rfl dX6_hasPlace_12 ?_
      refine QW.goto 17 dX6_hasPlace_13 rfl ?_
      exact FW.retZ (Or.inr rfl) dX6_hasPlace_17 rfl vc
theorem vX7_write_0 {g : QG} {K : Int32 → Hp → Prop} {h : Hp} {a1 : Int64} {a3 : Int32} (vc : (a3 < (1 : Int32) → K (-3 : Int32) h) ∧ (¬ a3 < (1 : Int32) → (a3 ≤ (8 : Int32) → (((h 7 1) + a3) ≤ (200 : Int32) → FW g mX7_write 35 [some (.ref 0), some (.long a1), none, some (.int a3), some (.int (0 : Int32))] [] h (q_RI K)) ∧ (¬ ((h 7 1) + a3) ≤ (200 : Int32) → K (-5 : Int32) h)) ∧ (¬ a3 ≤ (8 : Int32) → K (-3 : Int32) h))) : FW g mX7_write 0 [some (.ref 0), some (.long a1), none, some (.int a3), none] [] h (q_RI K) := by
  refine QW.iload_n dX7_write_0 rfl ?_
  refine QW.iconst (1 : Int32) rfl dX7_write_1 ?_
  refine QW.icmp_lt 11 dX7_write_2 rfl (fun hc => ?_) (fun hc => ?_)
  · replace vc := vc.1 hc
    refine QW.bipush (-3 : Int32) rfl dX7_write_11 ?_
    exact FW.ret dX7_write_13 rfl vc
  · replace vc := vc.2 hc
    refine QW.iload_n dX7_write_5 rfl ?_
    refine QW.bipush (8 : Int32) rfl dX7_write_6 ?_
    refine QW.icmp_le 14 dX7_write_8 rfl (fun hc => ?_) (fun hc => ?_)
    · replace vc := vc.1 hc
      refine QW.aload_n dX7_write_14 rfl ?_
      refine FW.getR dX7_write_15 lfX7_19 sR_0_1 ?_
      refine FW.getI (h 7 1) dX7_write_18 lfX7_70 sI_7_1 rfl ?_
      refine QW.iload_n dX7_write_21 rfl ?_
      refine QW.iadd dX7_write_22 ?_
      refine QW.sipush (200 : Int32) rfl dX7_write_23 ?_
      refine QW.icmp_le 32 dX7_write_26 rfl (fun hc => ?_) (fun hc => ?_)
      · replace vc := vc.1 hc
        refine QW.iconst (0 : Int32) rfl dX7_write_32 ?_
        refine QW.istore [some (.ref 0), some (.long a1), none, some (.int a3), some (.int (0 : Int32))] dX7_write_33 (by decide) rfl rfl ?_
        exact vc
      · replace vc := vc.2 hc
        refine QW.bipush (-5 : Int32) rfl dX7_write_29 ?_
        exact FW.ret dX7_write_31 rfl vc
    · replace vc := vc.2 hc
      refine QW.bipush (-3 : Int32) rfl dX7_write_11 ?_
      exact FW.ret dX7_write_13 rfl vc
theorem vX7_write_35 {g : QG} {K : Int32 → Hp → Prop} {h : Hp} {a1 : Int64} {a3 a4 : Int32} (vc : (a3 ≤ a4 → K (h 7 1) h) ∧ (¬ a3 ≤ a4 → FV g mX5_append [.ref 7, .int (((a1 >>> (((8 : Int32) * a4).toInt64 &&& 63)) &&& (255 : Int64)).toInt32)] h (fun h1 => FW g mX7_write 35 [some (.ref 0), some (.long a1), none, some (.int a3), some (.int (a4 + (1 : Int32)))] [] h1 (q_RI K)))) : FW g mX7_write 35 [some (.ref 0), some (.long a1), none, some (.int a3), some (.int a4)] [] h (q_RI K) := by
  refine QW.iload dX7_write_35 rfl ?_
  refine QW.iload_n dX7_write_37 rfl ?_
  refine QW.icmp_ge 66 dX7_write_38 rfl (fun hc => ?_) (fun hc => ?_)
  · replace vc := vc.1 hc
    refine QW.aload_n dX7_write_66 rfl ?_
    refine FW.getR dX7_write_67 lfX7_19 sR_0_1 ?_
    refine FW.getI (h 7 1) dX7_write_70 lfX7_70 sI_7_1 rfl ?_
    exact FW.ret dX7_write_73 rfl vc
  · replace vc := vc.2 hc
    refine QW.aload_n dX7_write_41 rfl ?_
    refine FW.getR dX7_write_42 lfX7_19 sR_0_1 ?_
    refine QW.lload_n dX7_write_45 rfl ?_
    refine QW.bipush (8 : Int32) rfl dX7_write_46 ?_
    refine QW.iload dX7_write_48 rfl ?_
    refine QW.imul dX7_write_50 ?_
    refine QW.lshr dX7_write_51 ?_
    refine QW.ldc2 dX7_write_52 lkX7_74 ?_
    refine QW.land dX7_write_55 ?_
    refine QW.l2i dX7_write_56 ?_
    refine FW.callVv [.int (((a1 >>> (((8 : Int32) * a4).toInt64 &&& 63)) &&& (255 : Int64)).toInt32)] [] rfl dX7_write_57 lmX7_76 sC_7 rfl ⟨Nat.le_of_ble_eq_true rfl, Nat.le_of_ble_eq_true rfl⟩ ⟨rfl, rfl⟩ (Nat.le_of_ble_eq_true rfl) (FV.mono (fun h1 vc => ?_) vc)
    refine QW.iinc (a4 + (1 : Int32)) [some (.ref 0), some (.long a1), none, some (.int a3), some (.int (a4 + (1 : Int32)))] dX7_write_60 rfl rfl (by decide) rfl rfl ?_
    refine QW.goto 35 dX7_write_63 rfl ?_
    exact vc
