/-! the text: read, fault -/
def rf (B : Nat → Nat) (L : Nat) : Nat → Dt → Nat → Nat → Option Nat × Dt × List Ln
  | 0, D, _, b => (some b, D, [])
  | d + 1, D, e, _ =>
    if (rdl B L D e).1 = false then (some (rdl B L D e).2.1, D, [])
    else if L ≤ tb B L (rdl B L D e).2.1 then (none, apl D (rdl B L D e).2.2, [(rdl B L D e).2.2])
    else if B (tb B L (rdl B L D e).2.1) = 59 then ((rf B L d (apl D (rdl B L D e).2.2) (te B L (rdl B L D e).2.1) (tb B L (rdl B L D e).2.1)).1, (rf B L d (apl D (rdl B L D e).2.2) (te B L (rdl B L D e).2.1) (tb B L (rdl B L D e).2.1)).2.1, (rdl B L D e).2.2 :: (rf B L d (apl D (rdl B L D e).2.2) (te B L (rdl B L D e).2.1) (tb B L (rdl B L D e).2.1)).2.2)
    else (some (tb B L (rdl B L D e).2.1), D, [])
def okls : Dt → List Ln → Prop
  | _, [] => True
  | D, l :: t => okl D l ∧ okls (apl D l) t
theorem rf_ok {B : Nat → Nat} {L : Nat} : ∀ (d : Nat) (D : Dt) (e b : Nat), dB D → e ≤ L → (rf B L d D e b).1 = none → (rf B L d D e b).2.1 = (rf B L d D e b).2.2.foldl apl D ∧ okls D (rf B L d D e b).2.2 ∧ (rf B L d D e b).2.2.length ≤ d
  | 0, D, e, b, _, _, h => by cases h
  | d + 1, D, e, b, hB, he, h => by
    have hok := rdl_ok (B := B) hB he
    unfold rf at h ⊢
    split at h
    · cases h
    · rename_i hr
      rw [if_neg hr]
      have hr : (rdl B L D e).1 = true := by
        cases q : (rdl B L D e).1 with
        | true => rfl
        | false => exact absurd q hr
      obtain ⟨o1, o2⟩ := hok hr
      split at h
      · rename_i hL
        rw [if_pos hL]
        exact ⟨rfl, ⟨o1, trivial⟩, by show 1 ≤ d + 1; omega⟩
      · rename_i hL
        rw [if_neg hL]
        split at h
        · rename_i h59
          rw [if_pos h59]
          obtain ⟨a1, a2, a3⟩ := rf_ok d _ _ _ (apl_B hB o1) (te_le o2) h
          refine ⟨a1, ⟨o1, a2⟩, ?_⟩
          show List.length _ + 1 ≤ d + 1
          omega
        · cases h
section Rd
variable {g : QG} {h : Hp} {K : Int32 → Hp → Prop} {KV : Hp → Prop} {B : Nat → Nat} {L : Nat}
theorem l_read {h0 : Hp} (hQ : StrOK g) : ∀ (d i : Nat) (D : Dt) (e b : Nat) (h : Hp), d + i = 12 → TX h B L → dB D → DX h D → h 7 5 = nI e → e ≤ L → h 7 3 = nI (i + 1) → (d = 0 → h 7 4 = nI b) → OnlyT cX [3, 4, 5, 6] h0 h → (∀ h2 : Hp, OnlyT cX [3, 4, 5, 6] h0 h2 → ((rf B L d D e b).1 = none → DX h2 (rf B L d D e b).2.1 ∧ h2 7 3 = nI (i + (rf B L d D e b).2.2.length)) → K (oI (rf B L d D e b).1) h2) → wX5_read_18 g K h := by
  intro d
  induction d with
  | zero =>
    intro i D e b h hd hX hB hD e5 he e3 e4 ho kk
    have ei : i = 12 := by omega
    subst ei
    refine vX5_read_18 ⟨fun _ => ?_, fun z => absurd (by rw [e3]; decide) z⟩
    rw [e4 rfl]
    exact kk h ho (fun z => by cases z)
  | succ d ih =>
    intro i D e b h hd hX hB hD e5 he e3 e4 ho kk
    have hok := rdl_ok (B := B) hB he
    have hL := hX.1
    refine vX5_read_18 ⟨fun z => ?_, fun _ => c_doLine hQ hB hX hD e5 he (fun h1 o1 => ⟨fun r1 r2 => ⟨fun z => absurd rfl z, fun _ => ?_⟩, fun r1 r2 r3 => ⟨fun _ => ?_, fun z => absurd z (by decide)⟩⟩)⟩
    · rw [e3, show (12 : Int32) = nI 12 from rfl, nI_ltI (by decide) (by omega)] at z; omega
    · have o01 : OnlyT cX [3, 4, 5, 6] h0 h1 := ho.trans (o1.weaken (by decide) (by decide))
      unfold rf at kk
      rw [if_pos r1] at kk
      rw [r2]
      exact kk h1 o01 (fun z => by cases z)
    · have o01 : OnlyT cX [3, 4, 5, 6] h0 h1 := ho.trans (o1.weaken (by decide) (by decide))
      obtain ⟨k1, k2⟩ := hok r1
      have hb := tb_le (B := B) k2
      unfold rf at kk
      rw [if_neg (by rw [r1]; decide)] at kk
      have hX1 := hX.keep o1 (by decide) (by decide)
      refine c_nextToken hX1 r2 k2 (fun h2 o2 f4 f5 => ?_)
      have hX2 := hX1.keep o2 (by decide) (by decide)
      have o02 : OnlyT cX [3, 4, 5, 6] h0 h2 := o01.trans (o2.weaken (by decide) (by decide))
      have hD2 := r3.keep o2 (by decide)
      have e32 : h2 7 3 = nI (i + 1) := by rw [o2.2 3 (by decide), o1.2 3 (by decide)]; exact e3
      rw [f4, hX2.2.1, nI_ltI (by omega) (by omega), ix_nI (by omega)]
      refine ⟨fun z => ?_, fun z => ?_⟩
      · have hBb := hX2.2.2 _ z
        rw [if_neg (by omega)] at kk
        rw [hBb.1, show (nI (B (tb B L (rdl B L D e).2.1)) = (59 : Int32)) ↔ B (tb B L (rdl B L D e).2.1) = 59 from nI_eq (b := 59) (by omega) (by decide)]
        refine ⟨vp_in_nI (by omega) (by decide), fun y => ?_, fun y => ?_⟩
        · rw [if_pos y] at kk
          rw [e32, nI_1]
          refine ih (i + 1) (apl D (rdl B L D e).2.2) (te B L (rdl B L D e).2.1) (tb B L (rdl B L D e).2.1) _ (by omega) (hX2.keep (J := [3]) (OnlyT.upF (L := []) (by decide)) (by decide) (by decide)) (apl_B hB k1) (hD2.keep (Ls := []) (J := [3]) (OnlyT.upF (by decide)) (by decide)) f5 (te_le k2) rfl (fun _ => f4) (o02.trans (OnlyT.upF (by decide))) (fun h3 o3 q3 => kk h3 o3 (fun z2 => ?_))
          obtain ⟨q4, q5⟩ := q3 z2
          refine ⟨q4, ?_⟩
          rw [q5]
          show nI _ = nI (i + (List.length _ + 1))
          congr 1; omega
        · rw [if_neg y] at kk
          exact kk h2 o02 (fun z2 => by cases z2)
      · rw [if_pos (by omega)] at kk
        exact kk h2 o02 (fun _ => ⟨hD2, e32⟩)
theorem l_fault {h0 : Hp} : ∀ (d i : Nat) (D : Dt) (e b : Nat) (h : Hp), d + 1 + i = 12 → TM h B L → dB D → DM h D → CT B L h e → e ≤ L → h 44 5 = nI i → OnlyM [48] [5, 14, 15, 16, 17, 18, 19] h0 h → (∀ h2 : Hp, OnlyM [48] [5, 14, 15, 16, 17, 18, 19] h0 h2 → (∀ q, q < 5 * i → h2 48 q = h 48 q) → ((rf B L (d + 1) D e b).1 = none → (∀ j, j < (rf B L (d + 1) D e b).2.2.length → LnR h2 (i + j) ((rf B L (d + 1) D e b).2.2.getD j zl)) ∧ h2 44 5 = nI (i + (rf B L (d + 1) D e b).2.2.length)) → K (oI (rf B L (d + 1) D e b).1) h2) → FI g mX8_readsLine [.ref 44] h (fun x2 h2 => (¬ x2 = 0 → wX8_fault_50 g K h2) ∧ (x2 = 0 → K (h2 44 15) h2)) := by
  intro d
  induction d with
  | zero =>
    intro i D e b h hd hX hB hD hc he h5 ho kk
    have hok := rdl_ok (B := B) hB he
    have hL := hX.1
    refine c_readsLine hB hX hD (by omega) h5 hc he (fun h1 o1 u1 => ⟨fun r1 r2 => ⟨fun z => absurd rfl z, fun _ => ?_⟩, fun r1 r2 r3 r4 r5 => ⟨fun _ => ?_, fun z => absurd z (by decide)⟩⟩)
    · unfold rf at kk
      rw [if_pos r1] at kk
      rw [r2]
      exact kk h1 (ho.trans o1) u1 (fun z => by cases z)
    · obtain ⟨k1, k2⟩ := hok r1
      have hb := tb_le (B := B) k2
      have hX1 := hX.keep o1 (by decide) (by decide)
      unfold rf at kk
      rw [if_neg (by rw [r1]; decide)] at kk
      refine vX8_fault_50 ?_
      rw [hX1.2.1, r2.1, nI_leI (by omega) (by omega)]
      refine ⟨fun z => ?_, fun z => ?_⟩
      · rw [if_pos z] at kk
        refine kk h1 (ho.trans o1) u1 (fun _ => ⟨fun j hj => ?_, r5⟩)
        have hj : j < 1 := hj
        rw [show j = 0 by omega]
        exact r3
      · rw [if_neg z] at kk
        have fin : K (nI (tb B L (rdl B L D e).2.1)) h1 := by
          by_cases y : B (tb B L (rdl B L D e).2.1) = 59
          · rw [if_pos y] at kk
            exact kk h1 (ho.trans o1) u1 (fun q => by cases q)
          · rw [if_neg y] at kk
            exact kk h1 (ho.trans o1) u1 (fun q => by cases q)
        have no : wX8_fault_102 g K h1 0 := vX8_fault_102 ⟨fun _ => ⟨fun q => absurd rfl q, fun _ => by rw [r2.1]; exact fin⟩, fun q => absurd rfl q⟩
        refine ⟨fun _ => no, fun _ => ⟨vp_in_nI (by omega) (by decide), fun _ => no, fun _ => ⟨fun _ => no, fun q => absurd ?_ q⟩⟩⟩
        rw [r5, show i + 1 = 12 by omega]; decide
  | succ d ih =>
    intro i D e b h hd hX hB hD hc he h5 ho kk
    have hok := rdl_ok (B := B) hB he
    have hL := hX.1
    refine c_readsLine hB hX hD (by omega) h5 hc he (fun h1 o1 u1 => ⟨fun r1 r2 => ⟨fun z => absurd rfl z, fun _ => ?_⟩, fun r1 r2 r3 r4 r5 => ⟨fun _ => ?_, fun z => absurd z (by decide)⟩⟩)
    · unfold rf at kk
      rw [if_pos r1] at kk
      rw [r2]
      exact kk h1 (ho.trans o1) u1 (fun z => by cases z)
    · obtain ⟨k1, k2⟩ := hok r1
      have hb := tb_le (B := B) k2
      have hX1 := hX.keep o1 (by decide) (by decide)
      unfold rf at kk
      rw [if_neg (by rw [r1]; decide)] at kk
      refine vX8_fault_50 ?_
      rw [hX1.2.1, r2.1, nI_leI (by omega) (by omega)]
      refine ⟨fun z => ?_, fun z => ?_⟩
      · rw [if_pos z] at kk
        refine kk h1 (ho.trans o1) u1 (fun _ => ⟨fun j hj => ?_, r5⟩)
        have hj : j < 1 := hj
        rw [show j = 0 by omega]
        exact r3
      · rw [if_neg z] at kk
        have hBb := hX1.2.2 (tb B L (rdl B L D e).2.1) (by omega)
        have hge : tb B L (rdl B L D e).2.1 ≤ te B L (rdl B L D e).2.1 := tn_ge
        have hte := te_le (B := B) k2
        have no : ¬ B (tb B L (rdl B L D e).2.1) = 59 → wX8_fault_102 g K h1 0 := fun y => by
          rw [if_neg y] at kk
          exact vX8_fault_102 ⟨fun _ => ⟨fun q => absurd rfl q, fun _ => by rw [r2.1]; exact kk h1 (ho.trans o1) u1 (fun q => by cases q)⟩, fun q => absurd rfl q⟩
        have one : B (tb B L (rdl B L D e).2.1) = 59 → te B L (rdl B L D e).2.1 = tb B L (rdl B L D e).2.1 + 1 := fun y => by
          show tn B L (tb B L (rdl B L D e).2.1) = _
          unfold tn
          rw [if_neg z, y, if_pos (by decide)]
        rw [r2.2.2, pk_sub hge, show (nI (te B L (rdl B L D e).2.1 - tb B L (rdl B L D e).2.1) = (1 : Int32)) ↔ te B L (rdl B L D e).2.1 - tb B L (rdl B L D e).2.1 = 1 from nI_eq (b := 1) (by omega) (by decide), ix_nI (by omega), hBb.1, show (nI (B (tb B L (rdl B L D e).2.1)) = (59 : Int32)) ↔ B (tb B L (rdl B L D e).2.1) = 59 from nI_eq (b := 59) (by omega) (by decide), r5, show (12 : Int32) = nI 12 from rfl, nI_leI (by decide) (by omega)]
        refine ⟨fun q => no (fun y => q (by rw [one y]; omega)), fun _ => ⟨vp_in_nI (by omega) (by decide), no, fun y => ⟨fun q => by omega, fun _ => ?_⟩⟩⟩
        rw [if_pos y] at kk
        refine vX8_fault_102 ⟨fun q => absurd q (by decide), fun _ => ?_⟩
        refine c_token hX1 r2.2.1 hte (fun h2 o2 f5 f4 f6 => ?_)
        have o02 : OnlyM [48] [5, 14, 15, 16, 17, 18, 19] h0 h2 := (ho.trans o1).trans (o2.weaken (by decide) (by decide))
        have e48 : h2 48 = h1 48 := o2.1 48 (by decide) (by decide)
        refine ih (i + 1) (apl D (rdl B L D e).2.2) (te B L (rdl B L D e).2.1) (tb B L (rdl B L D e).2.1) h2 (by omega) (hX1.keep o2 (by decide) (by decide)) (apl_B hB k1) (r4.keep o2 (by decide)) ⟨f5, f4, f6⟩ hte (by rw [o2.2 5 (by decide)]; exact r5) o02 (fun h3 o3 u3 q3 => kk h3 o3 (fun q hq => by rw [u3 q (by omega), e48, u1 q hq]) (fun z2 => ?_))
        obtain ⟨q4, q5⟩ := q3 z2
        refine ⟨fun j hj => ?_, ?_⟩
        · have hj : j < List.length _ + 1 := hj
          cases j with
          | zero =>
            unfold LnR at r3 ⊢
            rw [Nat.add_zero, u3 _ (by omega), u3 _ (by omega), u3 _ (by omega), u3 _ (by omega), u3 _ (by omega), e48]
            exact r3
          | succ j =>
            rw [show i + (j + 1) = i + 1 + j by omega]
            exact q4 j (by omega)
        · rw [q5]
          show nI _ = nI (i + (List.length _ + 1))
          congr 1; omega
end Rd
