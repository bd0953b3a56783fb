theorem vX7_inn_0 {g : QG} {K : Int32 → Hp → Prop} {h : Hp} (vc : FI g mX5_read [.ref 7, .ref 1] h (fun x1 h1 => (x1 = (-1 : Int32) → FV g mX6_copyFrom [.ref 1, .ref 9] h1 (fun h2 => FV g mX0_begin [.ref 26, .ref 1] (q_up h2 7 1 (0 : Int32)) (fun h3 => K (h3 7 3) (q_up (q_up (q_up h3 31 2 (0 : Int32)) 36 2 (0 : Int32)) 41 0 (0 : Int32))))) ∧ (¬ x1 = (-1 : Int32) → K (-4 : Int32) h1))) : FW g mX7_inn 0 [some (.ref 0)] [] h (q_RI K) := by
  refine QW.aload_n dX7_inn_0 rfl ?_
  refine FW.getR dX7_inn_1 lfX7_19 sR_0_1 ?_
  refine QW.aload_n dX7_inn_4 rfl ?_
  refine FW.getR dX7_inn_5 lfX7_10 sR_0_0 ?_
  refine FW.callVi [.ref 1] [] rfl dX7_inn_8 lmX7_80 sC_7 rfl ⟨Nat.le_of_ble_eq_true rfl, Nat.le_of_ble_eq_true rfl⟩ ⟨rfl, rfl⟩ (Nat.le_of_ble_eq_true rfl) (FI.mono (fun x1 h1 vc => ?_) vc)
  refine QW.iconst (-1 : Int32) rfl dX7_inn_11 ?_
  refine QW.icmp_eq 18 dX7_inn_12 rfl (fun hc => ?_) (fun hc => ?_)
  · replace vc := vc.1 hc
    refine QW.aload_n dX7_inn_18 rfl ?_
    refine FW.getR dX7_inn_19 lfX7_10 sR_0_0 ?_
    refine QW.aload_n dX7_inn_22 rfl ?_
    refine FW.getR dX7_inn_23 lfX7_19 sR_0_1 ?_
    refine FW.getR dX7_inn_26 lfX7_84 sR_7_2 ?_
    refine FW.callVv [.ref 9] [] rfl dX7_inn_29 lmX7_87 sC_1 rfl ⟨Nat.le_of_ble_eq_true rfl, Nat.le_of_ble_eq_true rfl⟩ ⟨rfl, rfl⟩ (Nat.le_of_ble_eq_true rfl) (FV.mono (fun h2 vc => ?_) vc)
    refine QW.aload_n dX7_inn_32 rfl ?_
    refine FW.getR dX7_inn_33 lfX7_19 sR_0_1 ?_
    refine QW.iconst (0 : Int32) rfl dX7_inn_36 ?_
    refine FW.putI dX7_inn_37 lfX7_70 sP_7_1 ?_
    refine QW.aload_n dX7_inn_40 rfl ?_
    refine FW.getR dX7_inn_41 lfX7_53 sR_0_5 ?_
    refine QW.aload_n dX7_inn_44 rfl ?_
    refine FW.getR dX7_inn_45 lfX7_10 sR_0_0 ?_
    refine FW.callVv [.ref 1] [] rfl dX7_inn_48 lmX7_90 sC_26 rfl ⟨Nat.le_of_ble_eq_true rfl, Nat.le_of_ble_eq_true rfl⟩ ⟨rfl, rfl⟩ (Nat.le_of_ble_eq_true rfl) (FV.mono (fun h3 vc => ?_) vc)
    refine QW.aload_n dX7_inn_51 rfl ?_
    refine FW.getR dX7_inn_52 lfX7_57 sR_0_6 ?_
    refine QW.iconst (0 : Int32) rfl dX7_inn_55 ?_
    refine FW.putZ (Or.inl rfl) dX7_inn_56 lfX7_93 sP_31_2 ?_
    refine QW.aload_n dX7_inn_59 rfl ?_
    refine FW.getR dX7_inn_60 lfX7_60 sR_0_7 ?_
    refine QW.iconst (0 : Int32) rfl dX7_inn_63 ?_
    refine FW.putZ (Or.inl rfl) dX7_inn_64 lfX7_93 sP_36_2 ?_
    refine QW.aload_n dX7_inn_67 rfl ?_
    refine FW.getR dX7_inn_68 lfX7_66 sR_0_8 ?_
    refine QW.iconst (0 : Int32) rfl dX7_inn_71 ?_
    refine FW.putI dX7_inn_72 lfX7_97 sP_41_0 ?_
    refine QW.aload_n dX7_inn_75 rfl ?_
    refine FW.getR dX7_inn_76 lfX7_19 sR_0_1 ?_
    refine FW.getI (h3 7 3) dX7_inn_79 lfX7_100 sI_7_3 rfl ?_
    exact FW.ret dX7_inn_82 rfl vc
  · replace vc := vc.2 hc
    refine QW.bipush (-4 : Int32) rfl dX7_inn_15 ?_
    exact FW.ret dX7_inn_17 rfl vc
