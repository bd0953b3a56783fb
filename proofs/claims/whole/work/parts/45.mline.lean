/-! the text: lines, the reference -/
def CT (B : Nat → Nat) (L : Nat) (h : Hp) (e : Nat) : Prop := h 44 15 = nI (tb B L e) ∧ h 44 14 = nI (te B L e) ∧ h 44 16 = nI (te B L e)
def LnR (h : Hp) (k : Nat) (l : Ln) : Prop := h 48 (5 * k) = nI l.1 ∧ (¬ l.1 = 7 → h 48 (5 * k + 1) = nI l.2.1) ∧ (3 ≤ l.1 → l.1 ≤ 6 → h 48 (5 * k + 2) = nI l.2.2.1 ∧ h 48 (5 * k + 3) = nI l.2.2.2.1 ∧ h 48 (5 * k + 4) = nI l.2.2.2.2)
def DM (h : Hp) (D : Dt) : Prop := h 44 17 = nI D.1 ∧ h 44 18 = nI D.2.2.1 ∧ h 44 19 = nI D.2.1
theorem DM.keep {h h2 : Hp} {D : Dt} {Ls J : List Nat} (a : DM h D) (o : OnlyM Ls J h h2) (hJ : 17 ∉ J ∧ 18 ∉ J ∧ 19 ∉ J) : DM h2 D := ⟨by rw [o.2 17 hJ.1]; exact a.1, by rw [o.2 18 hJ.2.1]; exact a.2.1, by rw [o.2 19 hJ.2.2]; exact a.2.2⟩
theorem inr_dec {lo hi : Nat} : ∀ {o : Option Nat}, (∀ v, o = some v → v ≤ 99) → decide ((lo : Int) ≤ (oI o).toInt ∧ (oI o).toInt ≤ (hi : Int)) = inr lo hi o
  | none, _ => decide_eq_false (by
    have : (oI none).toInt = -1 := by decide
    rw [this]; omega)
  | some v, h => by
    have := h v rfl
    show decide ((lo : Int) ≤ (nI v).toInt ∧ (nI v).toInt ≤ (hi : Int)) = decide (lo ≤ v ∧ v ≤ hi)
    rw [nI_toInt (by omega)]
    apply decide_eq_decide.mpr
    omega
section Ml
variable {g : QG} {h : Hp} {K : Int32 → Hp → Prop} {KV : Hp → Prop} {B : Nat → Nat} {L : Nat}
def OutM (B : Nat → Nat) (L k : Nat) (K : Int32 → Hp → Prop) (r : Bool × Nat × Ln) (h2 : Hp) : Prop := (r.1 = false → h2 44 15 = nI r.2.1 → K 0 h2) ∧ (r.1 = true → CT B L h2 r.2.1 → LnR h2 k r.2.2 → K 1 h2)
theorem OutM.qb {k : Nat} {r : Bool × Nat × Ln} {h2 : Hp} (a : OutM B L k K r h2) : OutM B L k (fun x h => q_bool x ∧ K x h) r h2 := ⟨fun x y => ⟨bi_bool false, a.1 x y⟩, fun x y z => ⟨bi_bool true, a.2 x y z⟩⟩
theorem c_inN {o : Option Nat} {lo hi : Nat} {K : Int32 → Hp → Prop} (ho : ∀ v, o = some v → v ≤ 99) (hlo : lo < 1000) (hhi : hi < 1000) (hK : K (bi (inr lo hi o)) h) : FI g mX8_in [.long (oI o).toInt64, .long (nI lo).toInt64, .long (nI hi).toInt64] h K :=
  c_inI (lo := (lo : Int)) (hi := (hi : Int)) (by rw [Int32.toInt_toInt64, nI_toInt (by omega)]) (by rw [Int32.toInt_toInt64, nI_toInt (by omega)]) (by rw [inr_dec ho]; exact hK)
theorem c_reads {e k s lo hi : Nat} (hX : TM h B L) (hk : k < 12) (h5 : h 44 5 = nI k) (hs : s < 4) (hc : CT B L h e) (he : e ≤ L) (hlo : lo < 1000) (hhi : hi < 1000)
    (no : inr lo hi (nmv B L e) = false → K 0 h)
    (yes : ∀ (h2 : Hp) (v : Nat), inr lo hi (nmv B L e) = true → nmv B L e = some v → OnlyM [48] [14, 15, 16] h h2 → h2 48 (5 * k + 1 + s) = nI v → (∀ q, q ≠ 5 * k + 1 + s → h2 48 q = h 48 q) → CT B L h2 (te B L e) → K 1 h2) : FI g mX8_reads [.ref 44, .int (nI s), .int (nI lo), .int (nI hi)] h K := by
  have ht := te_le (B := B) he
  refine eX8_reads (vX8_reads_0 (c_numberHere hX he hc.1 hc.2.2 (c_inN (fun v hv => nmv_le hv) hlo hhi (br_b' no (fun z => ?_)))))
  obtain ⟨v, hv, -, -⟩ := inr_of z
  rw [h5, hv, show (5 : Int32) = nI 5 from rfl, nI_mul, nI_1, nI_add, ix_nI (by omega)]
  refine ⟨vp_in_nI (by omega) (by decide), ?_⟩
  have o1 : OnlyM [48] [14, 15, 16] h (q_up h 48 (5 * k + 1 + s) (nI v)) := OnlyM.upC (by decide) (by decide)
  refine c_token (hX.keep o1 (by decide) (by decide)) hc.2.1 ht (fun h2 o2 f1 f2 f3 => ?_)
  refine yes h2 v z hv (o1.trans (o2.weaken (by decide) (by decide))) ?_ (fun q hq => ?_) ⟨f1, f2, f3⟩
  · rw [o2.1 48 (by decide) (by decide), up_at]; rfl
  · rw [o2.1 48 (by decide) (by decide), up_row _ _ _ _ hq]
theorem c_readsGuest {D : Dt} {e k w : Nat} (hB : dB D) (hX : TM h B L) (hD : DM h D) (hk : k < 12) (h5 : h 44 5 = nI k) (hc : CT B L h e) (he : e ≤ L) (hw : 3 ≤ w) (hw6 : w ≤ 6) (e48 : h 48 (5 * k) = nI w) (kk : ∀ h2 : Hp, OnlyM [48] [14, 15, 16] h h2 → (∀ q, q ≤ 5 * k → h2 48 q = h 48 q) → OutM B L k K (rdt B L D w e) h2) : FI g mX8_readsGuest [.ref 44] h K := by
  obtain ⟨b1, b2, b3, b4⟩ := hB
  have t1 := te_le (B := B) he
  have t2 := te_le (B := B) t1
  have t3 := te_le (B := B) t2
  have er : rdt B L D w e = rd1 B L e 0 (D.1 - 1) (fun v0 => rd1 B L (te B L e) 0 3 (fun v1 => rd1 B L (te B L (te B L e)) 0 1 (fun v2 => rd1 B L (te B L (te B L (te B L e))) 0 99 (fun v3 => (true, te B L (te B L (te B L (te B L e))), (w, v0, v1, v2, v3)))))) := by
    unfold rdt
    rw [if_neg (by omega), if_neg (by omega), if_neg (by omega)]
  rw [er] at kk
  refine eX8_readsGuest (vX8_readsGuest_0 ?_)
  rw [hD.1, show nI D.1 - (1 : Int32) = nI (D.1 - 1) from pk_sub (b := 1) (by omega)]
  refine c_reads (s := 0) (lo := 0) hX hk h5 (by decide) hc he (by decide) (by omega) (fun z => ⟨fun _ => ?_, fun y => absurd rfl y⟩) (fun h1 v0 z hv0 o1 w0 u0 c1 => ⟨fun y => absurd y (by decide), fun _ => ?_⟩)
  · rw [rd1_no z] at kk
    exact (kk h (OnlyM.rf _) (fun _ _ => rfl)).1 rfl hc.1
  rw [rd1_yes z hv0] at kk
  refine c_reads (s := 1) (lo := 0) (hi := 3) (hX.keep o1 (by decide) (by decide)) hk (by rw [o1.2 5 (by decide)]; exact h5) (by decide) c1 t1 (by decide) (by decide) (fun z => ⟨fun _ => ?_, fun y => absurd rfl y⟩) (fun h2 v1 z hv1 o2 w1 u1 c2 => ⟨fun y => absurd y (by decide), fun _ => ?_⟩)
  · rw [rd1_no z] at kk
    exact (kk h1 o1 (fun q hq => u0 q (by omega))).1 rfl c1.1
  rw [rd1_yes z hv1] at kk
  have o12 := o1.trans o2
  refine c_reads (s := 2) (lo := 0) (hi := 1) (hX.keep o12 (by decide) (by decide)) hk (by rw [o12.2 5 (by decide)]; exact h5) (by decide) c2 t2 (by decide) (by decide) (fun z => ⟨fun _ => ?_, fun y => absurd rfl y⟩) (fun h3 v2 z hv2 o3 w2 u2 c3 => ⟨fun y => absurd y (by decide), fun _ => ?_⟩)
  · rw [rd1_no z] at kk
    exact (kk h2 o12 (fun q hq => by rw [u1 q (by omega), u0 q (by omega)])).1 rfl c2.1
  rw [rd1_yes z hv2] at kk
  have o13 := o12.trans o3
  refine c_reads (s := 3) (lo := 0) (hi := 99) (hX.keep o13 (by decide) (by decide)) hk (by rw [o13.2 5 (by decide)]; exact h5) (by decide) c3 t3 (by decide) (by decide) (fun z => ⟨fun _ => ?_, fun y => absurd rfl y⟩) (fun h4 v3 z hv3 o4 w3 u3 c4 => ⟨fun y => absurd y (by decide), fun _ => ?_⟩)
  · rw [rd1_no z] at kk
    exact (kk h3 o13 (fun q hq => by rw [u2 q (by omega), u1 q (by omega), u0 q (by omega)])).1 rfl c3.1
  rw [rd1_yes z hv3] at kk
  refine (kk h4 (o13.trans o4) (fun q hq => by rw [u3 q (by omega), u2 q (by omega), u1 q (by omega), u0 q (by omega)])).2 rfl c4 ⟨?_, fun _ => ?_, fun _ _ => ⟨?_, ?_, ?_⟩⟩
  · rw [u3 _ (by omega), u2 _ (by omega), u1 _ (by omega), u0 _ (by omega)]; exact e48
  · rw [u3 _ (by omega), u2 _ (by omega), u1 _ (by omega)]; exact w0
  · rw [u3 _ (by omega), u2 _ (by omega)]; exact w1
  · rw [u3 _ (by omega)]; exact w2
  · exact w3
theorem c_readsRest {D : Dt} {e k w : Nat} (hB : dB D) (hX : TM h B L) (hD : DM h D) (hk : k < 12) (h5 : h 44 5 = nI k) (hc : CT B L h e) (he : e ≤ L) (hw : w ≤ 7) (e48 : h 48 (5 * k) = nI w) (kk : ∀ h2 : Hp, OnlyM [48] [14, 15, 16] h h2 → (∀ q, q ≤ 5 * k → h2 48 q = h 48 q) → OutM B L k K (rdt B L D w e) h2) : FI g mX8_readsRest [.ref 44, .int (nI w)] h K := by
  have hBB := hB
  obtain ⟨b1, b2, b3, b4⟩ := hB
  have hc4 := a_lt b2 b4
  refine eX8_readsRest (vX8_readsRest_0 (c_numberHere hX he hc.1 hc.2.2 ?_))
  rw [hD.1, show nI D.1 - (1 : Int32) = nI (D.1 - 1) from pk_sub (b := 1) (by omega)]
  refine c_inN (lo := 0) (fun v hv => nmv_le hv) (by decide) (by omega) ?_
  have cases8 : w = 0 ∨ w = 1 ∨ w = 2 ∨ w = 3 ∨ w = 4 ∨ w = 5 ∨ w = 6 ∨ w = 7 := by omega
  -- chairs
  have chair : (w = 1 ∨ w = 2) → (inr 0 (D.1 - 1) (nmv B L e) = false → K 0 h) ∧ (inr 0 (D.1 - 1) (nmv B L e) = true → FI g mX8_has [.int (h 44 18), .int (oI (nmv B L e))] h (fun x4 h4 => ∃ b : Bool, x4 = bi b ∧ h4 = h ∧ (b ≠ (w == 2) → K 0 h) ∧ (b = (w == 2) → FI g mX8_reads [.ref 44, .int (0), .int (0), .int (11)] h (fun x5 h5 => (x5 = 0 → K 0 h5) ∧ (¬ x5 = 0 → K 1 h5))))) := by
    intro h12
    have er : rdt B L D w e = rd1 B L e 0 (D.1 - 1) (fun v => if D.2.2.1.testBit v = (w == 2) then (true, te B L e, (w, v, 0, 0, 0)) else (false, tb B L e, zl)) := by
      unfold rdt
      rw [if_neg (by omega), if_neg (by omega), if_pos (by omega)]
    rw [er] at kk
    refine ⟨fun z => ?_, fun z => ?_⟩
    · rw [rd1_no z] at kk
      exact (kk h (OnlyM.rf _) (fun _ _ => rfl)).1 rfl hc.1
    · obtain ⟨v, hv, -, hvp⟩ := inr_of z
      rw [rd1_yes z hv] at kk
      rw [hD.2.1, hv]
      refine c_has (k := v) (by omega) (by omega) ⟨_, rfl, rfl, fun y => ?_, fun y => ?_⟩
      · rw [if_neg y] at kk
        exact (kk h (OnlyM.rf _) (fun _ _ => rfl)).1 rfl hc.1
      · rw [if_pos y] at kk
        refine c_reads (s := 0) (lo := 0) (hi := 11) hX hk h5 (by decide) hc he (by decide) (by decide) (fun z2 => ?_) (fun h2 v2 z2 hv2 o2 w2 u2 c2 => ⟨fun q => absurd q (by decide), fun _ => ?_⟩)
        · rw [hv] at z2
          have := of_decide_eq_false z2
          omega
        · rw [hv] at hv2
          cases hv2
          refine (kk h2 o2 (fun q hq => u2 q (by omega))).2 rfl c2 ⟨?_, fun _ => w2, fun q _ => ?_⟩
          · rw [u2 _ (by omega)]; exact e48
          · have q : 3 ≤ w := q
            omega
  have gst : 3 ≤ w → w ≤ 6 → FI g mX8_readsGuest [.ref 44] h (fun x h => q_bool x ∧ K x h) := fun h3 h6 => c_readsGuest hBB hX hD hk h5 hc he h3 h6 e48 (fun h2 o2 u2 => (kk h2 o2 u2).qb)
  rcases cases8 with rfl | rfl | rfl | rfl | rfl | rfl | rfl | rfl
  · refine ⟨fun _ => ?_, fun z => absurd rfl z⟩
    have er : rdt B L D 0 e = rd1 B L e 3 12 (fun v => (true, te B L e, (0, v, 0, 0, 0))) := rfl
    rw [er] at kk
    refine c_reads (s := 0) (lo := 3) (hi := 12) hX hk h5 (by decide) hc he (by decide) (by decide) (fun z => ⟨bi_bool false, ?_⟩) (fun h2 v z hv o2 w2 u2 c2 => ⟨bi_bool true, ?_⟩)
    · rw [rd1_no z] at kk
      exact (kk h (OnlyM.rf _) (fun _ _ => rfl)).1 rfl hc.1
    · rw [rd1_yes z hv] at kk
      refine (kk h2 o2 (fun q hq => u2 q (by omega))).2 rfl c2 ⟨?_, fun _ => w2, fun q _ => ?_⟩
      · rw [u2 _ (by omega)]; exact e48
      · have q : 3 ≤ 0 := q
        omega
  · refine ⟨fun z => absurd z (by decide), fun _ => ⟨fun _ => br_b (chair (Or.inl rfl)).1 (fun y => FI.mono (fun x4 h4 ⟨b, e1, e2, n1, n2⟩ => ?_) ((chair (Or.inl rfl)).2 y)), fun z => absurd rfl z⟩⟩
    rw [e1, e2]
    exact br_b' (fun y => n2 y) (fun y => n1 (by rw [y]; decide))
  · refine ⟨fun z => absurd z (by decide), fun _ => ⟨fun z => absurd z (by decide), fun _ => ⟨fun _ => br_b (chair (Or.inr rfl)).1 (fun y => FI.mono (fun x4 h4 ⟨b, e1, e2, n1, n2⟩ => ?_) ((chair (Or.inr rfl)).2 y)), fun z => absurd rfl z⟩⟩⟩
    rw [e1, e2]
    exact br_b (fun y => n1 (by rw [y]; decide)) (fun y => n2 y)
  · exact ⟨fun z => absurd z (by decide), fun _ => ⟨fun z => absurd z (by decide), fun _ => ⟨fun z => absurd z (by decide), fun _ => ⟨fun _ => gst (by decide) (by decide), fun z => absurd rfl z⟩⟩⟩⟩
  · exact ⟨fun z => absurd z (by decide), fun _ => ⟨fun z => absurd z (by decide), fun _ => ⟨fun z => absurd z (by decide), fun _ => ⟨fun z => absurd z (by decide), fun _ => ⟨fun _ => gst (by decide) (by decide), fun z => absurd rfl z⟩⟩⟩⟩⟩
  · exact ⟨fun z => absurd z (by decide), fun _ => ⟨fun z => absurd z (by decide), fun _ => ⟨fun z => absurd z (by decide), fun _ => ⟨fun z => absurd z (by decide), fun _ => ⟨fun z => absurd z (by decide), fun _ => ⟨fun _ => gst (by decide) (by decide), fun z => absurd rfl z⟩⟩⟩⟩⟩⟩
  · exact ⟨fun z => absurd z (by decide), fun _ => ⟨fun z => absurd z (by decide), fun _ => ⟨fun z => absurd z (by decide), fun _ => ⟨fun z => absurd z (by decide), fun _ => ⟨fun z => absurd z (by decide), fun _ => ⟨fun z => absurd z (by decide), fun _ => ⟨fun _ => gst (by decide) (by decide), fun z => absurd rfl z⟩⟩⟩⟩⟩⟩⟩
  · refine ⟨fun z => absurd z (by decide), fun _ => ⟨fun z => absurd z (by decide), fun _ => ⟨fun z => absurd z (by decide), fun _ => ⟨fun z => absurd z (by decide), fun _ => ⟨fun z => absurd z (by decide), fun _ => ⟨fun z => absurd z (by decide), fun _ => ⟨fun z => absurd z (by decide), fun _ => ⟨fun _ => ?_, fun z => absurd rfl z⟩⟩⟩⟩⟩⟩⟩⟩
    exact (kk h (OnlyM.rf _) (fun _ _ => rfl)).2 rfl hc ⟨e48, fun q => absurd rfl q, fun _ q => absurd q (by show ¬ 7 ≤ 6; decide)⟩
def OutL (B : Nat → Nat) (L k : Nat) (D : Dt) (K : Int32 → Hp → Prop) (r : Bool × Nat × Ln) (h2 : Hp) : Prop := (r.1 = false → h2 44 15 = nI r.2.1 → K 0 h2) ∧ (r.1 = true → CT B L h2 r.2.1 → LnR h2 k r.2.2 → DM h2 (apl D r.2.2) → h2 44 5 = nI (k + 1) → K 1 h2)
theorem c_isGuestWord {w : Nat} (hw : w ≤ 8) (hK : K (bi (decide (3 ≤ w ∧ w ≤ 6))) h) : FI g mX8_isGuestWord [.int (nI w)] h K := by
  refine eX8_isGuestWord (vX8_isGuestWord_0 (c_inI (lo := 3) (hi := 6) (by decide) (by decide) ⟨bi_bool _, ?_⟩))
  rw [nI_toInt (by omega), show decide ((3 : Int) ≤ (w : Int) ∧ (w : Int) ≤ 6) = decide (3 ≤ w ∧ w ≤ 6) from decide_eq_decide.mpr (by omega)]
  exact hK
theorem c_readsLine {D : Dt} {e k : Nat} (hB : dB D) (hX : TM h B L) (hD : DM h D) (hk : k < 12) (h5 : h 44 5 = nI k) (hc : CT B L h e) (he : e ≤ L) (kk : ∀ h2 : Hp, OnlyM [48] [5, 14, 15, 16, 17, 18, 19] h h2 → (∀ q, q < 5 * k → h2 48 q = h 48 q) → OutL B L k D K (rdl B L D e) h2) : FI g mX8_readsLine [.ref 44] h K := by
  have hb := tb_le (B := B) he
  have ht := te_le (B := B) he
  have hbt : tb B L e ≤ te B L e := tn_ge
  have hw8 := wx_le B (tb B L e) (te B L e)
  have hok := rdl_ok (B := B) hB he
  refine eX8_readsLine (vX8_readsLine_0 (c_wordOf hX ht hbt hc.1 hc.2.2 ?_))
  unfold rdl at kk hok
  generalize wx B (tb B L e) (te B L e) = w at *
  by_cases h8 : w = 8
  · rw [if_pos h8]
    rw [if_pos h8] at kk
    exact ⟨fun _ => (kk h (OnlyM.rf _) (fun _ _ => rfl)).1 rfl hc.1, fun z => absurd rfl z⟩
  · rw [if_neg h8]
    rw [if_neg h8] at kk hok
    refine ⟨fun z => absurd z (a_m1 w (by omega)), fun _ => c_isGuestWord (by omega) ?_⟩
    by_cases hf : (3 ≤ w ∧ w ≤ 6) ∧ 6 ≤ D.2.1
    · rw [if_pos hf] at kk
      rw [decide_eq_true hf.1]
      refine ⟨fun z => absurd z (by decide), fun _ => ⟨fun z => absurd ?_ z, fun _ => (kk h (OnlyM.rf _) (fun _ _ => rfl)).1 rfl hc.1⟩⟩
      have := hB.2.2.1
      rw [hD.2.2, show D.2.1 = 6 by omega]; rfl
    · rw [if_neg hf] at kk hok
      have go28 : wX8_readsLine_28 g K h (nI w) := by
        refine vX8_readsLine_28 (c_token hX hc.2.1 ht (fun h1 o1 f5 f4 f6 => ?_))
        have h51 : h1 44 5 = nI k := by rw [o1.2 5 (by decide)]; exact h5
        rw [h51, show (5 : Int32) = nI 5 from rfl, nI_mul, ix_nI (by omega)]
        refine ⟨vp_in_nI (by omega) (by decide), ?_⟩
        have o2 : OnlyM [48] [14, 15, 16] h (q_up h1 48 (5 * k) (nI w)) := (o1.weaken (by decide) (by decide)).trans (OnlyM.upC (by decide) (by decide))
        refine c_readsRest (D := D) (e := te B L e) hB (hX.keep o2 (by decide) (by decide)) (hD.keep o2 (by decide)) hk h51 ⟨f5, f4, f6⟩ ht (by omega) (up_at _ _ _ _) (fun h3 o3 u3 => ?_)
        have o03 := o2.trans o3
        have h53 : h3 44 5 = nI k := by rw [o3.2 5 (by decide)]; exact h51
        have D3 := hD.keep o03 (by decide)
        have lowq : ∀ q, q < 5 * k → h3 48 q = h 48 q := fun q hq => by rw [u3 q (by omega), up_row _ _ _ _ (by omega), o1.1 48 (by decide) (by decide)]
        have o03' : OnlyM [48] [5, 14, 15, 16, 17, 18, 19] h h3 := o03.weaken (by decide) (by decide)
        refine ⟨fun r1 r2 => ⟨fun z => absurd rfl z, fun _ => (kk h3 o03' lowq).1 r1 r2⟩, fun r1 r2 r3 => ⟨fun _ => ?_, fun z => absurd z (by decide)⟩⟩
        obtain ⟨⟨k1, k2, k3, k4⟩, k5⟩ := hok r1
        -- the word of the line is w
        have ew : (rdt B L D w (te B L e)).2.2.1 = w := by
          have z1 := r3.1
          rw [u3 _ (Nat.le_refl _), up_at, nI_eq (by omega) (by omega)] at z1
          exact z1.symm
        generalize hr : rdt B L D w (te B L e) = r at *
        obtain ⟨rb, rp, l⟩ := r
        have ew : l.1 = w := ew
        rw [h53, nI_mul, nI_1, ix_nI (by omega)]
        refine ⟨vp_in_nI (by omega) (by decide), ?_⟩
        have upl : ∀ (h4 : Hp) (a b c d : Int32), h4 = q_up (q_up (q_up (q_up h3 44 17 a) 44 18 b) 44 19 c) 44 5 d → a = nI (apl D l).1 → b = nI (apl D l).2.2.1 → c = nI (apl D l).2.1 → d = nI (k + 1) → K 1 h4 := by
          intro h4 a b c d e4 ea eb ec ed
          subst e4
          refine (kk _ ((((o03'.trans (OnlyM.upF (by decide))).trans (OnlyM.upF (by decide))).trans (OnlyM.upF (by decide))).trans (OnlyM.upF (by decide))) lowq).2 r1 r2 r3 ⟨ea, eb, ec⟩ ed
        have d5 : nI k + 1 = nI (k + 1) := nI_1 k
        have hc8 : w = 0 ∨ w = 1 ∨ w = 2 ∨ (3 ≤ w ∧ w ≤ 6) ∨ w = 7 := by omega
        have ew0 : ∀ j : Nat, j < 8 → (nI w = nI j ↔ w = j) := fun j hj => nI_eq (by omega) (by omega)
        have g118 : ∀ (h4 : Hp) (b : Int32), h4 = q_up h3 44 17 (nI (apl D l).1) → ¬ w = 0 → b = nI (apl D l).2.2.1 → wX8_readsLine_118 g K h4 (nI w) b := by
          intro h4 b e4 hw0 eb
          have e45 : h4 44 5 = nI k := by rw [e4]; exact h53
          have e419 : h4 44 19 = nI D.2.1 := by rw [e4]; exact D3.2.2
          refine vX8_readsLine_118 ⟨fun z => absurd ((ew0 0 (by decide)).mp z) hw0, fun _ => ⟨fun z => ?_, fun z => ?_⟩⟩
          · have hw7 : ¬ w = 7 := fun q => z ((ew0 7 (by decide)).mpr q)
            refine c_isGuestWord (by omega) ?_
            rw [show (q_up h4 44 18 b) 44 19 = nI D.2.1 from e419, show (q_up h4 44 18 b) 44 5 = nI k from e45]
            refine br_b (fun y => ?_) (fun y => ?_)
            · have y := of_decide_eq_false y
              refine upl _ (nI (apl D l).1) b (nI D.2.1) (nI k + 1) (by rw [e4]) rfl eb ?_ d5
              unfold apl
              rw [ew, if_neg hw0, if_neg hw7, if_pos (by omega)]
            · have y := of_decide_eq_true y
              refine upl _ (nI (apl D l).1) b (nI D.2.1 + 1) (nI k + 1) (by rw [e4]) rfl eb ?_ d5
              unfold apl
              rw [ew, if_neg hw0, if_neg hw7, if_neg (by omega), nI_1]
          · have hw7 : w = 7 := (ew0 7 (by decide)).mp z
            refine upl _ (nI (apl D l).1) b 0 (nI k + 1) (by rw [e4]; show q_up (q_up (q_up (q_up h3 44 17 _) 44 18 b) 44 19 0) 44 5 (h3 44 5 + 1) = _; rw [h53]) rfl eb ?_ d5
            unfold apl
            rw [ew, if_neg hw0, if_pos hw7]
            rfl
        have aP : ¬ w = 0 → (apl D l).1 = D.1 := fun hw0 => by
          unfold apl
          rw [ew, if_neg hw0]
          split
          · rfl
          · split <;> rfl
        refine ⟨fun z => ?_, fun z => ?_⟩
        · have hw0 : ¬ w = 0 := fun q => z ((ew0 0 (by decide)).mpr q)
          rw [show h3 44 17 = nI (apl D l).1 from by rw [aP hw0]; exact D3.1]
          refine vX8_readsLine_81 ⟨fun _ => ?_, fun y => absurd y z⟩
          rw [show h3 44 18 = nI D.2.2.1 from D3.2.1]
          have chair : (w = 1 ∨ w = 2) → nI D.2.2.1 ^^^ ((1 : Int32) <<< (h3 48 (5 * k + 1) &&& 31)) = nI (apl D l).2.2.1 := by
            intro h12
            have hv := k3 (by rw [ew]; exact h12)
            have hv : l.2.1 < D.1 := hv
            have h2v : 2 ^ l.2.1 < 2 ^ 12 := Nat.pow_lt_pow_right (by decide) (by have := hB.2.1; omega)
            have hc4 := a_lt hB.2.1 hB.2.2.2
            have e1 : h3 48 (5 * k + 1) = nI l.2.1 := r3.2.1 (by rw [ew]; omega)
            rw [e1, a_shl1 (by have := hB.2.1; omega), a_xor (by omega) (by omega)]
            unfold apl
            rw [ew, if_neg hw0, if_neg (by omega), if_pos (by omega)]
          have other : ¬ w = 1 → ¬ w = 2 → nI D.2.2.1 = nI (apl D l).2.2.1 := by
            intro n1 n2
            unfold apl
            rw [ew, if_neg hw0]
            split
            · rfl
            · rw [if_neg (by omega)]
          refine ⟨fun y => g118 _ _ rfl hw0 (chair (Or.inl ((ew0 1 (by decide)).mp y))), fun y => ⟨fun x => g118 _ _ rfl hw0 (other (fun q => y ((ew0 1 (by decide)).mpr q)) (fun q => x ((ew0 2 (by decide)).mpr q))), fun x => g118 _ _ rfl hw0 (chair (Or.inr ((ew0 2 (by decide)).mp x)))⟩⟩
        · have hw0 : w = 0 := (ew0 0 (by decide)).mp z
          have ea : apl D l = (l.2.1, 0, 0, D.2.2.2) := by unfold apl; rw [ew, if_pos hw0]
          have e1 : h3 48 (5 * k + 1) = nI l.2.1 := r3.2.1 (by rw [ew]; omega)
          rw [e1]
          refine vX8_readsLine_81 ⟨fun y => absurd z y, fun _ => ?_⟩
          refine vX8_readsLine_118 ⟨fun _ => ?_, fun y => absurd z y⟩
          refine upl _ (nI l.2.1) 0 0 (nI k + 1) (by show q_up (q_up (q_up (q_up h3 44 17 _) 44 18 0) 44 19 0) 44 5 (h3 44 5 + 1) = _; rw [h53]) (by rw [ea]) (by rw [ea]; rfl) (by rw [ea]; rfl) d5
      refine br_b (fun _ => go28) (fun y => ?_)
      have y := of_decide_eq_true y
      refine ⟨fun _ => go28, fun z => ?_⟩
      rw [hD.2.2, show (6 : Int32) = nI 6 from rfl, nI_eq (by have := hB.2.2.1; omega) (by decide)] at z
      exact absurd ⟨y, by omega⟩ hf
end Ml
