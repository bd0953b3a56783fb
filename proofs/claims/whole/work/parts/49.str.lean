/-! strings -/
theorem lf_value : Cond.fieldLink RJ0 9 "java/lang/String" "value" "[B" ∈ TB := TB_at 1163 (by decide +kernel) (by decide)
theorem lf_coder : Cond.fieldLink RJ0 15 "java/lang/String" "coder" "B" ∈ TB := TB_at 1164 (by decide +kernel) (by decide)
theorem lf_compact : Cond.fieldLink RJ0 38 "java/lang/String" "COMPACT_STRINGS" "Z" ∈ TB := TB_at 403 (by decide +kernel) (by decide)
theorem lf_sioobe : Cond.fieldLink RJ0 1053 "jdk/internal/util/Preconditions" "SIOOBE_FORMATTER" "Ljava/util/function/BiFunction;" ∈ TB := TB_at 419 (by decide +kernel) (by decide)
set_option maxRecDepth 20000 in
theorem lc_mJ0_checkIndex : q_C mJ0_checkIndex_df160 := ⟨TB_at 60 (by decide +kernel) (by decide), TB_at 418 (by rfl) (by decide)⟩
set_option maxRecDepth 20000 in
theorem lc_mJ3_checkIndex : q_C mJ3_checkIndex_8e157 := ⟨TB_at 62 (by decide +kernel) (by decide), TB_at 423 (by rfl) (by decide)⟩
set_option maxRecDepth 20000 in
theorem lmJ1_9 : q_S RJ1 9 mJ0_checkIndex_df160 2 := ⟨TB_at 416 (by decide +kernel) (by decide), TB_at 417 (by decide +kernel) (by decide), lc_mJ0_checkIndex, ⟨by decide +kernel, by decide +kernel, by decide +kernel⟩⟩
set_option maxRecDepth 20000 in
theorem lmJ0_1059 : q_S RJ0 1059 mJ3_checkIndex_8e157 3 := ⟨TB_at 421 (by decide +kernel) (by decide), TB_at 422 (by decide +kernel) (by decide), lc_mJ3_checkIndex, ⟨by decide +kernel, by decide +kernel, by decide +kernel⟩⟩
/-- the formatter of the checks: null or the old cell 4000 -/
def q_Fm (g : QG) : Prop := va_Z "jdk/internal/util/Preconditions" "SIOOBE_FORMATTER" "Ljava/util/function/BiFunction;" .null (q_A g) (q_s g) (q_s g).heap ∨ va_Z "jdk/internal/util/Preconditions" "SIOOBE_FORMATTER" "Ljava/util/function/BiFunction;" (.ref (q_o g 4000)) (q_A g) (q_s g) (q_s g).heap
theorem q_vZ {g : QG} {md : MD} {C n d : String} {v : Value} {p : Program} {s : State} {m : MethodId} {args : Array Value} {meth : Method} {c : Code} (h : va_Z C n d v (q_A g) (q_s g) (q_s g).heap) (h2 : QCx g md p s m args meth c) : va_Z C n d v (q_A g) s s.heap :=
  (h.moved h2.2.2.2.2.2.2.2.2.1.alike).kept (fun a _ hA => h2.2.2.2.2.2.2.2.2.2.1 a (Nat.not_le.mp hA))
section Str
variable {g : QG} {md : MD} {pc : Nat} {l : List (Option Value)} {st : List Value} {ph : QH} {ce sl : Nat} {KK : Option Int32 → QH → Prop} {h : Hp} {K : Int32 → Hp → Prop} {KV : Hp → Prop}
theorem QW.strV {i : Nat} (hy : (q_y md).cls = RJ0) (hi : i < 8) (hd : decode (q_c md) pc = .ok (.getfield 9, 3)) (kk : QW g md (pc + 3) l (.ref (3000 + i) :: st) ph ce sl KK) : QW g md pc l (.ref (2000 + i) :: st) ph ce sl KK := by
  refine QW.goT (fun p e s m args below meth c H locs ls Q h1 h2 h3 hls w => ?_) kk
  rw [List.map_cons, q_tvo g (by omega)] at w ⊢
  exact vk_getf h2.1 h2.2.1 ((q_vStr h1 h2).1 i hi).2.2.1 (q_vS h2 h3) (by have := h2.2.2.2.2.1; rw [hy] at this; exact this) (h2.2.2.2.2.2.1 _ lf_value) (fun _ h => h) hd w
theorem QW.strC {i : Nat} (hy : (q_y md).cls = RJ0) (hi : i < 8) (hd : decode (q_c md) pc = .ok (.getfield 15, 3)) (kk : QW g md (pc + 3) l (.int 0 :: st) ph ce sl KK) : QW g md pc l (.ref (2000 + i) :: st) ph ce sl KK := by
  refine QW.goT (fun p e s m args below meth c H locs ls Q h1 h2 h3 hls w => ?_) kk
  rw [List.map_cons, q_tvo g (by omega)]
  exact vk_getf h2.1 h2.2.1 ((q_vStr h1 h2).1 i hi).2.1 (q_vS h2 h3) (by have := h2.2.2.2.2.1; rw [hy] at this; exact this) (h2.2.2.2.2.2.1 _ lf_coder) (fun _ h => h) hd w
theorem QW.strL {i : Nat} (hi : i < 8) (hd : decode (q_c md) pc = .ok (.arraylength, 1)) (kk : QW g md (pc + 1) l (.int (nI (q_strL.getD i 0)) :: st) ph ce sl KK) : QW g md pc l (.ref (3000 + i) :: st) ph ce sl KK := by
  refine QW.goT (fun p e s m args below meth c H locs ls Q h1 h2 h3 hls w => ?_) kk
  rw [List.map_cons, q_tvo g (by omega)]
  exact va_tlen h2.1 h2.2.1 ((q_vStr h1 h2).1 i hi).2.2.2 (q_vS h2 h3) rfl hd w
theorem QW.strB {i : Nat} {j : Int32} (hi : i < 8) (hin : vp_in j (q_strL.getD i 0)) (hd : decode (q_c md) pc = .ok (.baload, 1)) (kk : QW g md (pc + 1) l (.int ((q_strB.getD i []).getD j.toNatClampNeg 0) :: st) ph ce sl KK) : QW g md pc l (.int j :: .ref (3000 + i) :: st) ph ce sl KK := by
  refine QW.goT (fun p e s m args below meth c H locs ls Q h1 h2 h3 hls w => ?_) kk
  rw [List.map_cons, List.map_cons, q_tvo g (by omega)]
  exact va_tb h2.1 h2.2.1 ((q_vStr h1 h2).1 i hi).2.2.2 (q_vS h2 h3) hin rfl hd w
theorem QW.strZ (hy : (q_y md).cls = RJ0) (hd : decode (q_c md) pc = .ok (.getstatic 38, 3)) (kk : QW g md (pc + 3) l (.int 1 :: st) ph ce sl KK) : QW g md pc l st ph ce sl KK := by
  refine QW.goT (fun p e s m args below meth c H locs ls Q h1 h2 h3 hls w => ?_) kk
  exact va_gets h2.1 h2.2.1 (q_vZ h1.2.2.2.2.2.2 h2) (q_vS h2 h3) (by have := h2.2.2.2.2.1; rw [hy] at this; exact this) (h2.2.2.2.2.2.1 _ lf_compact) (fun _ h => h) hd w
theorem QW.strF (hF : q_Fm g) (hy : (q_y md).cls = RJ0) (hd : decode (q_c md) pc = .ok (.getstatic 1053, 3)) (kk : ∀ v : Value, (v = .null ∨ v = .ref 4000) → QW g md (pc + 3) l (v :: st) ph ce sl KK) : QW g md pc l st ph ce sl KK := by
  rcases hF with hF | hF
  · refine QW.goT (fun p e s m args below meth c H locs ls Q h1 h2 h3 hls w => ?_) (kk .null (Or.inl rfl))
    exact va_gets h2.1 h2.2.1 (q_vZ hF h2) (q_vS h2 h3) (by have := h2.2.2.2.2.1; rw [hy] at this; exact this) (h2.2.2.2.2.2.1 _ lf_sioobe) (fun _ h => h) hd w
  · refine QW.goT (fun p e s m args below meth c H locs ls Q h1 h2 h3 hls w => ?_) (kk (.ref 4000) (Or.inr rfl))
    rw [List.map_cons, q_tvo g (by omega)] at w
    exact va_gets h2.1 h2.2.1 (q_vZ hF h2) (q_vS h2 h3) (by have := h2.2.2.2.2.1; rw [hy] at this; exact this) (h2.2.2.2.2.2.1 _ lf_sioobe) (fun _ h => h) hd w
theorem c_coder {i : Nat} (hi : i < 8) (hK : K 0 h) : FI g mJ0_coder_7d493 [.ref (2000 + i)] h K := by
  refine FI.of [some (.ref (2000 + i))] (plainFor_of_name (by decide)) ⟨rfl, rfl⟩ (Nat.le_of_ble_eq_true rfl) rfl ?_
  refine QW.strZ rfl dJ0_coder_7d493_0 (QW.if_eq 13 dJ0_coder_7d493_3 rfl (fun z => absurd z (by decide)) (fun _ => ?_))
  refine QW.aload_n dJ0_coder_7d493_6 rfl (QW.strC rfl hi dJ0_coder_7d493_7 (QW.goto 14 dJ0_coder_7d493_10 rfl ?_))
  exact QW.ireturn dJ0_coder_7d493_14 ⟨rfl, rfl⟩ ⟨_, rfl, by decide⟩ ⟨rfl, 0, rfl, hK⟩
theorem c_isLatin1 {i : Nat} (hi : i < 8) (hK : K 1 h) : FI g mJ0_isLatin1_aae02 [.ref (2000 + i)] h K := by
  refine FI.of [some (.ref (2000 + i))] (plainFor_of_name (by decide)) ⟨rfl, rfl⟩ (Nat.le_of_ble_eq_true rfl) rfl ?_
  refine QW.strZ rfl dJ0_isLatin1_aae02_0 (QW.if_eq 17 dJ0_isLatin1_aae02_3 rfl (fun z => absurd z (by decide)) (fun _ => ?_))
  refine QW.aload_n dJ0_isLatin1_aae02_6 rfl (QW.strC rfl hi dJ0_isLatin1_aae02_7 (QW.if_ne 17 dJ0_isLatin1_aae02_10 rfl (fun z => absurd rfl z) (fun _ => ?_)))
  refine QW.iconst 1 (by decide) dJ0_isLatin1_aae02_13 (QW.goto 18 dJ0_isLatin1_aae02_14 rfl ?_)
  exact QW.ireturn dJ0_isLatin1_aae02_18 ⟨rfl, rfl⟩ ⟨_, rfl, by decide⟩ ⟨rfl, 1, rfl, hK⟩
theorem c_length {i : Nat} (hi : i < 8) (hK : K (nI (q_strL.getD i 0)) h) : FI g mJ0_length_8abf5 [.ref (2000 + i)] h K := by
  refine FI.of [some (.ref (2000 + i))] (plainFor_of_name (by decide)) ⟨rfl, rfl⟩ (Nat.le_of_ble_eq_true rfl) rfl ?_
  refine QW.aload_n dJ0_length_8abf5_0 rfl (QW.strV rfl hi dJ0_length_8abf5_1 (QW.strL hi dJ0_length_8abf5_4 (QW.aload_n dJ0_length_8abf5_5 rfl ?_)))
  refine FW.callTi hi [] [.int (nI (q_strL.getD i 0))] rfl dJ0_length_8abf5_6 lmJ0_335 rfl ⟨Nat.le_of_ble_eq_true rfl, Nat.le_of_ble_eq_true rfl⟩ ⟨rfl, rfl⟩ (Nat.le_of_ble_eq_true rfl) (c_coder hi ?_)
  refine QW.ishr dJ0_length_8abf5_9 ?_
  have : ∀ i, i < 8 → nI (q_strL.getD i 0) >>> ((0 : Int32) &&& 31) = nI (q_strL.getD i 0) := by decide
  rw [this i hi]
  exact FW.ret dJ0_length_8abf5_10 rfl hK
theorem c_check3 {j n : Nat} {v : Value} (hj : j < n) (hn : n < 1000) (hv : v = .null ∨ v = .ref 4000) (hK : K (nI j) h) : FI g mJ3_checkIndex_8e157 [.int (nI j), .int (nI n), v] h K := by
  have go : ∀ lo : List (Option Value), lo[0]? = some (some (.int (nI j))) → lo[1]? = some (some (.int (nI n))) → FW g mJ3_checkIndex_8e157 0 lo [] h (q_RI K) := by
    intro lo e0 e1
    refine QW.iload_n dJ3_checkIndex_8e157_0 e0 (QW.if_lt 9 dJ3_checkIndex_8e157_1 rfl (fun z => absurd z (nI_pos (by omega))) (fun _ => ?_))
    refine QW.iload_n dJ3_checkIndex_8e157_4 e0 (QW.iload_n dJ3_checkIndex_8e157_5 e1 (QW.icmp_lt 16 dJ3_checkIndex_8e157_6 rfl (fun _ => ?_) (fun z => absurd (nI_lt hj (by omega)) z)))
    exact QW.iload_n dJ3_checkIndex_8e157_16 e0 (FW.ret dJ3_checkIndex_8e157_17 rfl hK)
  rcases hv with rfl | rfl
  · exact FI.of [some (.int (nI j)), some (.int (nI n)), some .null] (plainFor_of_name (by decide)) ⟨rfl, rfl⟩ (Nat.le_of_ble_eq_true rfl) rfl (go _ rfl rfl)
  · exact FI.of [some (.int (nI j)), some (.int (nI n)), some (.ref 4000)] (plainFor_of_name (by decide)) ⟨rfl, rfl⟩ (Nat.le_of_ble_eq_true rfl) rfl (go _ rfl rfl)
theorem c_check0 {j n : Nat} (hF : q_Fm g) (hj : j < n) (hn : n < 1000) (hK : KV h) : FV g mJ0_checkIndex_df160 [.int (nI j), .int (nI n)] h KV := by
  refine FV.of [some (.int (nI j)), some (.int (nI n))] (plainFor_of_name (by decide)) ⟨rfl, rfl⟩ (Nat.le_of_ble_eq_true rfl) rfl ?_
  refine QW.iload_n dJ0_checkIndex_df160_0 rfl (QW.iload_n dJ0_checkIndex_df160_1 rfl (QW.strF hF rfl dJ0_checkIndex_df160_2 (fun v hv => ?_)))
  refine FW.callSi [.int (nI j), .int (nI n), v] [] rfl dJ0_checkIndex_df160_5 lmJ0_1059 rfl ⟨Nat.le_of_ble_eq_true rfl, Nat.le_of_ble_eq_true rfl⟩ ⟨rfl, rfl⟩ (Nat.le_of_ble_eq_true rfl) (c_check3 hj hn hv ?_)
  exact QW.popi dJ0_checkIndex_df160_8 (FW.retV dJ0_checkIndex_df160_9 rfl hK)
theorem strB_ok : ∀ i, i < 8 → ∀ j, j < 6 → j < q_strL.getD i 0 → narrow .char (.int (((((q_strB.getD i []).getD j 0) &&& 255).toUInt32 % 65536).toInt32)) = .int (((((q_strB.getD i []).getD j 0) &&& 255).toUInt32 % 65536).toInt32) ∧ ((((q_strB.getD i []).getD j 0) &&& 255).toUInt32 % 65536).toInt32 = nI (wc i j) := by decide +kernel
theorem strL_wl : ∀ i, i < 8 → q_strL.getD i 0 = wl i := by decide
theorem c_charAt1 {i j : Nat} (hF : q_Fm g) (hi : i < 8) (hj : j < q_strL.getD i 0) (hK : K (nI (wc i j)) h) : FI g mJ1_charAt_3b067 [.ref (3000 + i), .int (nI j)] h K := by
  have h6 : q_strL.getD i 0 ≤ 6 := by rw [strL_wl i hi]; exact wl_le i hi
  obtain ⟨n1, n2⟩ := strB_ok i hi j (by omega) hj
  refine FI.of [some (.ref (3000 + i)), some (.int (nI j))] (plainFor_of_name (by decide)) ⟨rfl, rfl⟩ (Nat.le_of_ble_eq_true rfl) rfl ?_
  refine QW.iload_n dJ1_charAt_3b067_0 rfl (QW.aload_n dJ1_charAt_3b067_1 rfl (QW.strL hi dJ1_charAt_3b067_2 ?_))
  refine FW.callSv [.int (nI j), .int (nI (q_strL.getD i 0))] [] rfl dJ1_charAt_3b067_3 lmJ1_9 rfl ⟨Nat.le_of_ble_eq_true rfl, Nat.le_of_ble_eq_true rfl⟩ ⟨rfl, rfl⟩ (Nat.le_of_ble_eq_true rfl) (c_check0 hF hj (by omega) ?_)
  refine QW.aload_n dJ1_charAt_3b067_6 rfl (QW.iload_n dJ1_charAt_3b067_7 rfl (QW.strB hi (vp_in_nI hj (by omega)) dJ1_charAt_3b067_8 ?_))
  rw [ix_nI (by omega)]
  refine QW.sipush 255 (by decide) dJ1_charAt_3b067_9 (QW.iand dJ1_charAt_3b067_12 (QW.i2c dJ1_charAt_3b067_13 ?_))
  refine QW.ireturn dJ1_charAt_3b067_14 ⟨rfl, rfl⟩ ⟨_, rfl, n1⟩ ⟨rfl, _, rfl, ?_⟩
  rw [n2]; exact hK
theorem c_charAt {i j : Nat} (hF : q_Fm g) (hi : i < 8) (hj : j < q_strL.getD i 0) (hK : K (nI (wc i j)) h) : FI g mJ0_charAt_5068e [.ref (2000 + i), .int (nI j)] h K := by
  have h6 : q_strL.getD i 0 ≤ 6 := by rw [strL_wl i hi]; exact wl_le i hi
  obtain ⟨n1, n2⟩ := strB_ok i hi j (by omega) hj
  rw [n2] at n1
  refine FI.of [some (.ref (2000 + i)), some (.int (nI j))] (plainFor_of_name (by decide)) ⟨rfl, rfl⟩ (Nat.le_of_ble_eq_true rfl) rfl ?_
  refine QW.aload_n dJ0_charAt_5068e_0 rfl ?_
  refine FW.callTi hi [] [] rfl dJ0_charAt_5068e_1 lmJ0_492 rfl ⟨Nat.le_of_ble_eq_true rfl, Nat.le_of_ble_eq_true rfl⟩ ⟨rfl, rfl⟩ (Nat.le_of_ble_eq_true rfl) (c_isLatin1 hi ?_)
  refine QW.if_eq 16 dJ0_charAt_5068e_4 rfl (fun z => absurd z (by decide)) (fun _ => ?_)
  refine QW.aload_n dJ0_charAt_5068e_7 rfl (QW.strV rfl hi dJ0_charAt_5068e_8 (QW.iload_n dJ0_charAt_5068e_11 rfl ?_))
  refine FW.callSi [.ref (3000 + i), .int (nI j)] [] rfl dJ0_charAt_5068e_12 lmJ0_495 rfl ⟨Nat.le_of_ble_eq_true rfl, Nat.le_of_ble_eq_true rfl⟩ ⟨rfl, rfl⟩ (Nat.le_of_ble_eq_true rfl) (c_charAt1 hF hi hj ?_)
  exact QW.ireturn dJ0_charAt_5068e_15 ⟨rfl, rfl⟩ ⟨_, rfl, n1⟩ ⟨rfl, _, rfl, hK⟩
theorem StrOK.of (hF : q_Fm g) : StrOK g := fun i hi h K => ⟨fun hk => c_length hi (by rw [strL_wl i hi]; exact hk), fun j hj hk => c_charAt hF hi (by rw [strL_wl i hi]; exact hj) hk⟩
end Str
