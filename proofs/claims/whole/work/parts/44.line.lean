/-! the text: lines, the class -/
abbrev Dt := Nat × Nat × Nat × (Nat → Nat) × (Nat → Nat) × (Nat → Nat) × (Nat → Nat) × (Nat → Nat)
abbrev Ln := Nat × Nat × Nat × Nat × Nat
abbrev zl : Ln := (0, 0, 0, 0, 0)
def dB (D : Dt) : Prop := 3 ≤ D.1 ∧ D.1 ≤ 12 ∧ D.2.1 ≤ 6 ∧ D.2.2.1 < 2 ^ D.1
def dR (D : Dt) : Prop := ∀ k, k < D.2.1 → D.2.2.2.1 k ≤ 3 ∧ D.2.2.2.2.1 k < D.1 ∧ D.2.2.2.2.2.1 k ≤ 3 ∧ D.2.2.2.2.2.2.1 k ≤ 1 ∧ D.2.2.2.2.2.2.2 k ≤ 99
def apl (D : Dt) (l : Ln) : Dt :=
  if l.1 = 0 then (l.2.1, 0, 0, D.2.2.2)
  else if l.1 = 7 then (D.1, 0, D.2.2)
  else if l.1 ≤ 2 then (D.1, D.2.1, D.2.2.1 ^^^ 2 ^ l.2.1, D.2.2.2)
  else (D.1, D.2.1 + 1, D.2.2.1, stf D.2.2.2.1 D.2.1 (l.1 - 3), stf D.2.2.2.2.1 D.2.1 l.2.1, stf D.2.2.2.2.2.1 D.2.1 l.2.2.1, stf D.2.2.2.2.2.2.1 D.2.1 l.2.2.2.1, stf D.2.2.2.2.2.2.2 D.2.1 l.2.2.2.2)
def okl (D : Dt) (l : Ln) : Prop := l.1 ≤ 7 ∧ (l.1 = 0 → 3 ≤ l.2.1 ∧ l.2.1 ≤ 12) ∧ (l.1 = 1 ∨ l.1 = 2 → l.2.1 < D.1) ∧ (3 ≤ l.1 → l.1 ≤ 6 → D.2.1 < 6 ∧ l.2.1 < D.1 ∧ l.2.2.1 ≤ 3 ∧ l.2.2.2.1 ≤ 1 ∧ l.2.2.2.2 ≤ 99)
theorem apl_B {D : Dt} {l : Ln} (a : dB D) (o : okl D l) : dB (apl D l) := by
  obtain ⟨a1, a2, a3, a4⟩ := a
  obtain ⟨o1, o2, o3, o4⟩ := o
  unfold apl dB
  split
  · rename_i h
    have := o2 h
    exact ⟨this.1, this.2, by show 0 ≤ 6; omega, Nat.two_pow_pos _⟩
  · split
    · exact ⟨a1, a2, by show 0 ≤ 6; omega, a4⟩
    · split
      · rename_i h0 h7 h2
        exact ⟨a1, a2, a3, x_flip a4 (o3 (by omega))⟩
      · rename_i h0 h7 h2
        have := (o4 (by omega) (by omega)).1
        exact ⟨a1, a2, by show D.2.1 + 1 ≤ 6; omega, a4⟩
theorem apl_R {D : Dt} {l : Ln} (a : dR D) (o : okl D l) : dR (apl D l) := by
  obtain ⟨o1, o2, o3, o4⟩ := o
  unfold apl dR
  split
  · intro k hk; exact absurd hk (Nat.not_lt_zero _)
  · split
    · intro k hk; exact absurd hk (Nat.not_lt_zero _)
    · split
      · exact a
      · rename_i h0 h7 h2
        obtain ⟨q1, q2, q3, q4, q5⟩ := o4 (by omega) (by omega)
        intro k hk
        have hk : k < D.2.1 + 1 := hk
        by_cases e : k = D.2.1
        · simp only [stf, if_pos e]
          exact ⟨by omega, q2, q3, q4, q5⟩
        · simp only [stf, if_neg e]
          exact a k (by omega)
def rd1 (B : Nat → Nat) (L e lo hi : Nat) (k : Nat → Bool × Nat × Ln) : Bool × Nat × Ln := if inr lo hi (nmv B L e) = true then k ((nmv B L e).getD 0) else (false, tb B L e, zl)
theorem rd1_no {B : Nat → Nat} {L e lo hi : Nat} {k : Nat → Bool × Nat × Ln} (h : inr lo hi (nmv B L e) = false) : rd1 B L e lo hi k = (false, tb B L e, zl) := by
  unfold rd1; rw [if_neg (by rw [h]; decide)]
theorem rd1_yes {B : Nat → Nat} {L e lo hi v : Nat} {k : Nat → Bool × Nat × Ln} (h : inr lo hi (nmv B L e) = true) (hv : nmv B L e = some v) : rd1 B L e lo hi k = k v := by
  unfold rd1; rw [if_pos h, hv]; rfl
theorem inr_of {lo hi : Nat} : ∀ {o : Option Nat}, inr lo hi o = true → ∃ v, o = some v ∧ lo ≤ v ∧ v ≤ hi
  | none, h => by cases h
  | some v, h => ⟨v, rfl, of_decide_eq_true h⟩
def rdt (B : Nat → Nat) (L : Nat) (D : Dt) (w e : Nat) : Bool × Nat × Ln :=
  if w = 7 then (true, e, (7, 0, 0, 0, 0))
  else if w = 0 then rd1 B L e 3 12 (fun v => (true, te B L e, (0, v, 0, 0, 0)))
  else if w ≤ 2 then rd1 B L e 0 (D.1 - 1) (fun v => if D.2.2.1.testBit v = (w == 2) then (true, te B L e, (w, v, 0, 0, 0)) else (false, tb B L e, zl))
  else rd1 B L e 0 (D.1 - 1) (fun v0 => rd1 B L (te B L e) 0 3 (fun v1 => rd1 B L (te B L (te B L e)) 0 1 (fun v2 => rd1 B L (te B L (te B L (te B L e))) 0 99 (fun v3 => (true, te B L (te B L (te B L (te B L e))), (w, v0, v1, v2, v3))))))
def rdl (B : Nat → Nat) (L : Nat) (D : Dt) (e : Nat) : Bool × Nat × Ln :=
  if wx B (tb B L e) (te B L e) = 8 then (false, tb B L e, zl)
  else if (3 ≤ wx B (tb B L e) (te B L e) ∧ wx B (tb B L e) (te B L e) ≤ 6) ∧ 6 ≤ D.2.1 then (false, tb B L e, zl)
  else rdt B L D (wx B (tb B L e) (te B L e)) (te B L e)
theorem rd1_ok {P : Bool × Nat × Ln → Prop} {B : Nat → Nat} {L e lo hi : Nat} {k : Nat → Bool × Nat × Ln} (h0 : ∀ q : Bool × Nat × Ln, q.1 = false → P q) (hk : ∀ v, lo ≤ v → v ≤ hi → P (k v)) : P (rd1 B L e lo hi k) := by
  cases h : inr lo hi (nmv B L e) with
  | false => rw [rd1_no h]; exact h0 _ rfl
  | true =>
    obtain ⟨v, hv, h1, h2⟩ := inr_of h
    rw [rd1_yes h hv]; exact hk v h1 h2
theorem rdl_ok {B : Nat → Nat} {L : Nat} {D : Dt} {e : Nat} (hD : dB D) (he : e ≤ L) : (rdl B L D e).1 = true → okl D (rdl B L D e).2.2 ∧ (rdl B L D e).2.1 ≤ L := by
  have hw := wx_le B (tb B L e) (te B L e)
  have t1 := te_le (B := B) he
  have t2 := te_le (B := B) t1
  have t3 := te_le (B := B) t2
  have t4 := te_le (B := B) t3
  have t5 := te_le (B := B) t4
  have hp := hD.1
  unfold rdl
  split
  · intro z; cases z
  · split
    · intro z; cases z
    · rename_i h8 h6
      generalize wx B (tb B L e) (te B L e) = w at *
      unfold rdt
      split
      · intro _
        refine ⟨⟨by show 7 ≤ 7; omega, fun z => ?_, fun z => ?_, fun z1 z2 => ?_⟩, t1⟩
        · exact absurd z (by show ¬ 7 = 0; omega)
        · exact absurd z (by show ¬ (7 = 1 ∨ 7 = 2); omega)
        · exact absurd z2 (by show ¬ 7 ≤ 6; omega)
      · split
        · refine rd1_ok (P := fun q => q.1 = true → okl D q.2.2 ∧ q.2.1 ≤ L) (fun q hq z => by rw [hq] at z; cases z) (fun v h1 h2 _ => ⟨⟨by show 0 ≤ 7; omega, fun _ => ⟨h1, h2⟩, fun z => ?_, fun z1 _ => ?_⟩, t2⟩)
          · exact absurd z (by show ¬ (0 = 1 ∨ 0 = 2); omega)
          · exact absurd z1 (by show ¬ 3 ≤ 0; omega)
        · split
          · refine rd1_ok (P := fun q => q.1 = true → okl D q.2.2 ∧ q.2.1 ≤ L) (fun q hq z => by rw [hq] at z; cases z) (fun v h1 h2 => ?_)
            split
            · rename_i g7 g0 g2 _
              intro _
              refine ⟨⟨by show w ≤ 7; omega, fun z => absurd z g0, fun _ => by show v < D.1; omega, fun z1 _ => ?_⟩, t2⟩
              have z1 : 3 ≤ w := z1
              omega
            · intro z; cases z
          · rename_i g7 g0 g2
            refine rd1_ok (P := fun q => q.1 = true → okl D q.2.2 ∧ q.2.1 ≤ L) (fun q hq z => by rw [hq] at z; cases z) (fun v0 _ h0 => ?_)
            refine rd1_ok (P := fun q => q.1 = true → okl D q.2.2 ∧ q.2.1 ≤ L) (fun q hq z => by rw [hq] at z; cases z) (fun v1 _ h1 => ?_)
            refine rd1_ok (P := fun q => q.1 = true → okl D q.2.2 ∧ q.2.1 ≤ L) (fun q hq z => by rw [hq] at z; cases z) (fun v2 _ h2 => ?_)
            refine rd1_ok (P := fun q => q.1 = true → okl D q.2.2 ∧ q.2.1 ≤ L) (fun q hq z => by rw [hq] at z; cases z) (fun v3 _ h3 _ => ?_)
            refine ⟨⟨by show w ≤ 7; omega, fun z => absurd z g0, fun z => ?_, fun _ _ => ⟨?_, ?_, h1, h2, h3⟩⟩, t5⟩
            · have z : w = 1 ∨ w = 2 := z
              omega
            · by_cases q : D.2.1 < 6
              · exact q
              · exact absurd ⟨⟨by omega, by omega⟩, by omega⟩ h6
            · show v0 < D.1; omega
/-- the draft tells D -/
def DX (h : Hp) (D : Dt) : Prop := (h 9 0 = nI D.1 ∧ h 9 1 = nI D.2.2.1 ∧ h 9 2 = nI D.2.1) ∧ ∀ k, k < D.2.1 → h 10 k = nI (D.2.2.2.1 k) ∧ h 11 k = nI (D.2.2.2.2.1 k) ∧ h 12 k = nI (D.2.2.2.2.2.1 k) ∧ h 13 k = nI (D.2.2.2.2.2.2.1 k) ∧ h 14 k = nI (D.2.2.2.2.2.2.2 k)
theorem DX.keep {h h2 : Hp} {D : Dt} {Ls J : List Nat} (a : DX h D) (o : OnlyT Ls J h h2) (hL : 9 ∉ Ls ∧ 10 ∉ Ls ∧ 11 ∉ Ls ∧ 12 ∉ Ls ∧ 13 ∉ Ls ∧ 14 ∉ Ls) : DX h2 D := by
  unfold DX
  rw [o.1 9 hL.1 (by decide), o.1 10 hL.2.1 (by decide), o.1 11 hL.2.2.1 (by decide), o.1 12 hL.2.2.2.1 (by decide), o.1 13 hL.2.2.2.2.1 (by decide), o.1 14 hL.2.2.2.2.2 (by decide)]
  exact a
abbrev cX : List Nat := [9, 10, 11, 12, 13, 14, 15]
/-- how a line comes out -/
def OutX (D : Dt) (K : Int32 → Hp → Prop) (r : Bool × Nat × Ln) (h2 : Hp) : Prop := (r.1 = false → h2 7 4 = nI r.2.1 → K 0 h2) ∧ (r.1 = true → h2 7 5 = nI r.2.1 → DX h2 (apl D r.2.2) → K 1 h2)
theorem OutX.qb {D : Dt} {K : Int32 → Hp → Prop} {r : Bool × Nat × Ln} {h2 : Hp} (a : OutX D K r h2) : OutX D (fun x h => q_bool x ∧ K x h) r h2 := ⟨fun x y => ⟨bi_bool false, a.1 x y⟩, fun x y z => ⟨bi_bool true, a.2 x y z⟩⟩
section Xl
variable {g : QG} {h : Hp} {K : Int32 → Hp → Prop} {KV : Hp → Prop} {B : Nat → Nat} {L : Nat}
theorem c_doInn {D : Dt} {e : Nat} (hX : TX h B L) (hD : DX h D) (e5 : h 7 5 = nI e) (he : e ≤ L) (kk : ∀ h2 : Hp, OnlyT cX [4, 5, 6] h h2 → OutX D K (rdt B L D 0 e) h2) : FI g mX5_doInn [.ref 7] h K := by
  have er : rdt B L D 0 e = rd1 B L e 3 12 (fun v => (true, te B L e, (0, v, 0, 0, 0))) := rfl
  rw [er] at kk
  refine eX5_doInn (vX5_doInn_0 (c_readNumber (lo := 3) (hi := 12) hX e5 he (by decide) (by decide) (fun h2 o2 f4 f5 f6 => br_b' (fun z => ?_) (fun z => ?_))))
  · rw [rd1_no z] at kk
    exact (kk h2 (o2.weaken (by decide) (by decide))).1 rfl f4
  · obtain ⟨v, hv, h1, h12⟩ := inr_of z
    rw [rd1_yes z hv] at kk
    rw [f6 v hv]
    refine eX6_beginInn (vX6_beginInn_0 ?_)
    refine (kk _ (((((o2.weaken (by decide) (by decide)).trans (OnlyT.upC (by decide) (by decide)))).trans (OnlyT.upC (by decide) (by decide))).trans (OnlyT.upC (by decide) (by decide)))).2 rfl f5 ⟨⟨rfl, rfl, rfl⟩, fun k hk => absurd hk (Nat.not_lt_zero _)⟩
theorem c_doChair {D : Dt} {e w : Nat} {tk : Bool} (hB : dB D) (hX : TX h B L) (hD : DX h D) (e5 : h 7 5 = nI e) (he : e ≤ L) (hw : w = 1 ∨ w = 2) (htk : tk = (w == 2)) (kk : ∀ h2 : Hp, OnlyT cX [4, 5, 6] h h2 → OutX D K (rdt B L D w e) h2) : FI g mX5_doChair [.ref 7, .int (bi tk)] h K := by
  obtain ⟨b1, b2, b3, b4⟩ := hB
  have hc := a_lt b2 b4
  have er : rdt B L D w e = rd1 B L e 0 (D.1 - 1) (fun v => if D.2.2.1.testBit v = (w == 2) then (true, te B L e, (w, v, 0, 0, 0)) else (false, tb B L e, zl)) := by
    unfold rdt
    rw [if_neg (by omega), if_neg (by omega), if_pos (by omega)]
  rw [er] at kk
  refine eX5_doChair (vX5_doChair_0 ?_)
  rw [hD.1.1, show (1 : Int32) = nI 1 from rfl, pk_sub (by omega), show (0 : Int32) = nI 0 from rfl]
  refine c_readNumber hX e5 he (by decide) (by omega) (fun h2 o2 f4 f5 f6 => br_b (fun z => ?_) (fun z => ?_))
  · rw [rd1_no z] at kk
    exact (kk h2 (o2.weaken (by decide) (by decide))).1 rfl f4
  · obtain ⟨v, hv, -, hvp⟩ := inr_of z
    rw [rd1_yes z hv] at kk
    have hD2 := hD.keep o2 (by decide)
    have h2v : 2 ^ v < 2 ^ 12 := Nat.pow_lt_pow_right (by decide) (by omega)
    rw [f6 v hv]
    refine eX6_hasChair_r9 (vX6_hasChair_r9_0 (c_hasPlace9 (p := D.1) (by omega) hD2.1.1 (br_b (fun y => ?_) (fun _ => ?_))))
    · have := of_decide_eq_false y
      rw [nI_toInt (by omega)] at this
      omega
    · rw [hD2.1.2.1]
      refine c_holds (by omega) (by omega) ?_
      have eq1 : bi (D.2.2.1.testBit v) = bi tk ↔ D.2.2.1.testBit v = (w == 2) := by
        rw [htk]
        cases D.2.2.1.testBit v <;> cases (w == 2) <;> decide
      have fin : (bi (D.2.2.1.testBit v) = bi tk → K (nI 1) (q_up h2 9 1 (h2 9 1 ^^^ nI 1 <<< (h2 7 6 &&& 31)))) ∧ (¬ bi (D.2.2.1.testBit v) = bi tk → K (nI 0) h2) := by
        rw [eq1]
        refine ⟨fun y => ?_, fun y => ?_⟩
        · rw [if_pos y] at kk
          rw [hD2.1.2.1, f6 v hv, show nI 1 = (1 : Int32) from rfl, a_shl1 (by omega), a_xor (by omega) (by omega)]
          refine (kk _ ((o2.weaken (by decide) (by decide)).trans (OnlyT.upC (by decide) (by decide)))).2 rfl f5 ?_
          have ea : apl D (w, v, 0, 0, 0) = (D.1, D.2.1, D.2.2.1 ^^^ 2 ^ v, D.2.2.2) := by
            unfold apl
            rw [if_neg (by show ¬ w = 0; omega), if_neg (by show ¬ w = 7; omega), if_pos (by show w ≤ 2; omega)]
          show DX _ (apl D (w, v, 0, 0, 0))
          rw [ea]
          exact ⟨⟨hD2.1.1, rfl, hD2.1.2.2⟩, hD2.2⟩
        · rw [if_neg y] at kk
          exact (kk h2 (o2.weaken (by decide) (by decide))).1 rfl f4
      cases hb : D.2.2.1.testBit v with
      | false => rw [hb] at fin; exact ⟨fun _ => fin, fun y => absurd rfl y⟩
      | true => rw [hb] at fin; exact ⟨fun y => absurd y (by decide), fun _ => fin⟩
def mo (p : Nat) : Nat → Nat
  | 0 => p - 1
  | 1 => 3
  | 2 => 1
  | _ => 99
theorem s_dg {a1 : Int32} {p i e : Nat} (hp : 3 ≤ p) (hp12 : p ≤ 12) (hi : i < 4) (hX : TX h B L) (e5 : h 7 5 = nI e) (he : e ≤ L) (e9 : h 9 0 = nI p)
    (no : ∀ h2 : Hp, OnlyT [15] [4, 5, 6] h h2 → h2 7 4 = nI (tb B L e) → inr 0 (mo p i) (nmv B L e) = false → K 0 h2)
    (yes : ∀ (h2 : Hp) (v : Nat), OnlyT [15] [4, 5, 6] h h2 → h2 7 5 = nI (te B L e) → inr 0 (mo p i) (nmv B L e) = true → nmv B L e = some v → h2 15 i = nI v → (∀ j, j ≠ i → h2 15 j = h 15 j) → wX5_doGuest_16 g K h2 a1 (nI (i + 1))) : wX5_doGuest_16 g K h a1 (nI i) := by
  have hm : mo p i < 1000 := by
    unfold mo
    split <;> omega
  refine vX5_doGuest_16 ⟨fun z => ?_, fun _ => eX5_mostOf (vX5_mostOf_0 ?_)⟩
  · rw [show (4 : Int32) = nI 4 from rfl, nI_leI (by decide) (by omega)] at z; omega
  · have go : ∀ x : Int32, x = nI (mo p i) → FI g mX5_readNumber [.ref 7, .int (0), .int x] h (fun x3 h3 => (¬ x3 = 0 → vp_in (nI i) 4 ∧ wX5_doGuest_16 g K (q_up h3 15 (nI i).toNatClampNeg (h3 7 6)) a1 (nI i + 1)) ∧ (x3 = 0 → K (0) h3)) := by
      intro x hx
      subst hx
      refine c_readNumber (lo := 0) hX e5 he (by decide) hm (fun h2 o2 f4 f5 f6 => br_b' (fun z => no h2 (o2.weaken (by decide) (by decide)) f4 z) (fun z => ⟨vp_in_nI (by omega) (by decide), ?_⟩))
      obtain ⟨v, hv, -, -⟩ := inr_of z
      rw [nI_1, ix_nI (by omega), f6 v hv]
      refine yes _ v ((o2.weaken (by decide) (by decide)).trans (OnlyT.upC (by decide) (by decide))) f5 z hv (up_at _ _ _ _) (fun j hj => ?_)
      rw [up_row _ _ _ _ hj, o2.1 15 (by decide) (by decide)]
    have hc : i = 0 ∨ i = 1 ∨ i = 2 ∨ i = 3 := by omega
    rcases hc with rfl | rfl | rfl | rfl
    · exact ⟨fun _ => go _ (by rw [e9, show (1 : Int32) = nI 1 from rfl, pk_sub (by omega)]; rfl), fun z => absurd rfl z⟩
    · exact ⟨fun z => absurd z (by decide), fun _ => ⟨fun _ => go _ rfl, fun z => absurd rfl z⟩⟩
    · exact ⟨fun z => absurd z (by decide), fun _ => ⟨fun z => absurd z (by decide), fun _ => ⟨fun _ => go _ rfl, fun z => absurd rfl z⟩⟩⟩
    · exact ⟨fun z => absurd z (by decide), fun _ => ⟨fun z => absurd z (by decide), fun _ => ⟨fun z => absurd z (by decide), fun _ => go _ rfl⟩⟩⟩
theorem c_doGuest {D : Dt} {e k : Nat} (hB : dB D) (hX : TX h B L) (hD : DX h D) (e5 : h 7 5 = nI e) (he : e ≤ L) (hk : k < 4) (h6 : D.2.1 < 6) (kk : ∀ h2 : Hp, OnlyT cX [4, 5, 6] h h2 → OutX D K (rdt B L D (k + 3) e) h2) : FI g mX5_doGuest [.ref 7, .int (nI k)] h K := by
  obtain ⟨b1, b2, b3, b4⟩ := hB
  have t1 := te_le (B := B) he
  have t2 := te_le (B := B) t1
  have t3 := te_le (B := B) t2
  have er : rdt B L D (k + 3) e = rd1 B L e 0 (D.1 - 1) (fun v0 => rd1 B L (te B L e) 0 3 (fun v1 => rd1 B L (te B L (te B L e)) 0 1 (fun v2 => rd1 B L (te B L (te B L (te B L e))) 0 99 (fun v3 => (true, te B L (te B L (te B L (te B L e))), (k + 3, v0, v1, v2, v3)))))) := by
    unfold rdt
    rw [if_neg (by omega), if_neg (by omega), if_neg (by omega)]
  rw [er] at kk
  refine eX5_doGuest (vX5_doGuest_0 ⟨fun _ => ?_, fun z => absurd (by rw [hD.1.2.2]; exact nI_lt (b := 6) h6 (by decide)) z⟩)
  refine s_dg (i := 0) b1 b2 (by decide) hX e5 he hD.1.1 (fun h1 o1 f4 z => ?_) (fun h1 v0 o1 f5 z hv0 w0 _ => ?_)
  · rw [rd1_no (show inr 0 (D.1 - 1) _ = false from z)] at kk
    exact (kk h1 (o1.weaken (by decide) (by decide))).1 rfl f4
  rw [rd1_yes (show inr 0 (D.1 - 1) _ = true from z) hv0] at kk
  have hX1 := hX.keep o1 (by decide) (by decide)
  have hD1 := hD.keep o1 (by decide)
  refine s_dg (i := 1) b1 b2 (by decide) hX1 f5 t1 hD1.1.1 (fun h2 o2 f4 z => ?_) (fun h2 v1 o2 f5 z hv1 w1 u1 => ?_)
  · rw [rd1_no (show inr 0 3 _ = false from z)] at kk
    exact (kk h2 ((o1.trans o2).weaken (by decide) (by decide))).1 rfl f4
  rw [rd1_yes (show inr 0 3 _ = true from z) hv1] at kk
  have hX2 := hX1.keep o2 (by decide) (by decide)
  have hD2 := hD1.keep o2 (by decide)
  refine s_dg (i := 2) b1 b2 (by decide) hX2 f5 t2 hD2.1.1 (fun h3 o3 f4 z => ?_) (fun h3 v2 o3 f5 z hv2 w2 u2 => ?_)
  · rw [rd1_no (show inr 0 1 _ = false from z)] at kk
    exact (kk h3 (((o1.trans o2).trans o3).weaken (by decide) (by decide))).1 rfl f4
  rw [rd1_yes (show inr 0 1 _ = true from z) hv2] at kk
  have hX3 := hX2.keep o3 (by decide) (by decide)
  have hD3 := hD2.keep o3 (by decide)
  refine s_dg (i := 3) b1 b2 (by decide) hX3 f5 t3 hD3.1.1 (fun h4 o4 f4 z => ?_) (fun h4 v3 o4 f5 z hv3 w3 u3 => ?_)
  · rw [rd1_no (show inr 0 99 _ = false from z)] at kk
    exact (kk h4 ((((o1.trans o2).trans o3).trans o4).weaken (by decide) (by decide))).1 rfl f4
  rw [rd1_yes (show inr 0 99 _ = true from z) hv3] at kk
  have hD4 := hD3.keep o4 (by decide)
  have o14 : OnlyT cX [4, 5, 6] h h4 := (((o1.trans o2).trans o3).trans o4).weaken (by decide) (by decide)
  refine vX5_doGuest_16 ⟨fun _ => eX6_addGuest (vX6_addGuest_0 ?_), fun z => absurd (by decide) z⟩
  have e92 : h4 9 2 = nI D.2.1 := hD4.1.2.2
  have vin : vp_in (nI D.2.1) 6 := vp_in_nI h6 (by decide)
  rw [e92, ix_nI (by omega), nI_1]
  refine ⟨fun z => ?_, fun _ => ⟨fun _ => ⟨vin, vin, vin, vin, vin, ⟨bi_bool true, ?_⟩⟩, fun z => absurd (by decide) z⟩⟩
  · rw [show (6 : Int32) = nI 6 from rfl, nI_leI (by decide) (by omega)] at z; omega
  · rw [show h4 15 0 = nI v0 from by rw [u3 0 (by decide), u2 0 (by decide), u1 0 (by decide)]; exact w0, show h4 15 1 = nI v1 from by rw [u3 1 (by decide), u2 1 (by decide)]; exact w1, show h4 15 2 = nI v2 from by rw [u3 2 (by decide)]; exact w2, w3]
    refine (kk _ ((((((o14.trans (OnlyT.upC (by decide) (by decide))).trans (OnlyT.upC (by decide) (by decide))).trans (OnlyT.upC (by decide) (by decide))).trans (OnlyT.upC (by decide) (by decide))).trans (OnlyT.upC (by decide) (by decide))).trans (OnlyT.upC (by decide) (by decide)))).2 rfl f5 ?_
    have ea : apl D (k + 3, v0, v1, v2, v3) = (D.1, D.2.1 + 1, D.2.2.1, stf D.2.2.2.1 D.2.1 k, stf D.2.2.2.2.1 D.2.1 v0, stf D.2.2.2.2.2.1 D.2.1 v1, stf D.2.2.2.2.2.2.1 D.2.1 v2, stf D.2.2.2.2.2.2.2 D.2.1 v3) := by
      unfold apl
      rw [if_neg (by show ¬ k + 3 = 0; omega), if_neg (by show ¬ k + 3 = 7; omega), if_neg (by show ¬ k + 3 ≤ 2; omega)]
      rfl
    show DX _ (apl D (k + 3, v0, v1, v2, v3))
    rw [ea]
    refine ⟨⟨hD4.1.1, hD4.1.2.1, rfl⟩, fun j hj => ?_⟩
    have hj : j < D.2.1 + 1 := hj
    have up1 : ∀ (f : Nat → Int32) (F : Nat → Nat) (v : Nat), (∀ q, q < D.2.1 → f q = nI (F q)) → upd f D.2.1 (nI v) j = nI (stf F D.2.1 v j) := by
      intro f F v hf
      unfold upd stf
      split
      · rfl
      · exact hf j (by omega)
    exact ⟨up1 (h4 10) _ k (fun q hq => (hD4.2 q hq).1), up1 (h4 11) _ v0 (fun q hq => (hD4.2 q hq).2.1), up1 (h4 12) _ v1 (fun q hq => (hD4.2 q hq).2.2.1), up1 (h4 13) _ v2 (fun q hq => (hD4.2 q hq).2.2.2.1), up1 (h4 14) _ v3 (fun q hq => (hD4.2 q hq).2.2.2.2)⟩
theorem c_kindOfWord {b t : Nat} (hQ : StrOK g) (hX : TX h B L) (ht : t ≤ L) (hb : b ≤ t) (e4 : h 7 4 = nI b) (e5 : h 7 5 = nI t) (hK : K (if wm B b t 4 = true then 0 else if wm B b t 5 = true then 1 else if wm B b t 6 = true then 2 else if wm B b t 7 = true then 3 else -1) h) : FI g mX5_kindOfWord [.ref 7] h K := by
  refine eX5_kindOfWord (vX5_kindOfWord_0 (c_xword (i := 4) hQ (by decide) hX ht hb e4 e5 (br_b (fun z4 => c_xword (i := 5) hQ (by decide) hX ht hb e4 e5 (br_b (fun z5 => c_xword (i := 6) hQ (by decide) hX ht hb e4 e5 (br_b (fun z6 => c_xword (i := 7) hQ (by decide) hX ht hb e4 e5 (br_b (fun z7 => ?_) (fun z7 => ?_))) (fun z6 => ?_))) (fun z5 => ?_))) (fun z4 => ?_))))
  · rw [z4, z5, z6, z7] at hK; exact hK
  · rw [z4, z5, z6, z7] at hK; exact hK
  · rw [z4, z5, z6] at hK; exact hK
  · rw [z4, z5] at hK; exact hK
  · rw [z4] at hK; exact hK
theorem c_doLine {D : Dt} {e : Nat} (hQ : StrOK g) (hB : dB D) (hX : TX h B L) (hD : DX h D) (e5 : h 7 5 = nI e) (he : e ≤ L) (kk : ∀ h2 : Hp, OnlyT cX [4, 5, 6] h h2 → OutX D K (rdl B L D e) h2) : FI g mX5_doLine [.ref 7] h K := by
  have hb := tb_le (B := B) he
  have ht := te_le (B := B) he
  have hbt : tb B L e ≤ te B L e := tn_ge
  have hn6 := hB.2.2.1
  refine eX5_doLine (vX5_doLine_0 (c_nextToken hX e5 he (fun h1 o1 f4 f5 => ?_)))
  have hX1 := hX.keep o1 (by decide) (by decide)
  have hD1 := hD.keep o1 (by decide)
  have o1' : OnlyT cX [4, 5, 6] h h1 := o1.weaken (by decide) (by decide)
  have wd : ∀ (i : Nat) (K2 : Int32 → Hp → Prop), i < 8 → K2 (bi (wm B (tb B L e) (te B L e) i)) h1 → FI g mX5_isWord [.ref 7, .ref (2000 + i)] h1 K2 := fun i K2 hi hk => c_xword hQ hi hX1 ht hbt f4 f5 hk
  unfold rdl at kk
  refine wd 0 _ (by decide) (br_b (fun z0 => wd 1 _ (by decide) (br_b (fun z1 => wd 2 _ (by decide) (br_b (fun z2 => wd 3 _ (by decide) (br_b (fun z3 => c_kindOfWord hQ hX1 ht hbt f4 f5 ?_) (fun z3 => ?_))) (fun z2 => ?_))) (fun z1 => ?_))) (fun z0 => ?_))
  · -- a guest, or no word
    have guest : ∀ k : Nat, k < 4 → wx B (tb B L e) (te B L e) = k + 3 → ∀ x : Int32, x = nI k → (x = -1 → K 0 h1) ∧ (¬ x = -1 → FI g mX5_doGuest [.ref 7, .int x] h1 (fun x7 h7 => (x7 = 0 → K 0 h7) ∧ (¬ x7 = 0 → K 1 h7))) := by
      intro k hk hw x hx
      subst hx
      rw [hw, if_neg (by omega)] at kk
      refine ⟨fun z => absurd z (a_m1 k (by omega)), fun _ => ?_⟩
      by_cases h6 : D.2.1 < 6
      · rw [if_neg (by omega)] at kk
        refine c_doGuest hB hX1 hD1 f5 ht hk h6 (fun h2 o2 => ?_)
        have q := kk h2 (o1'.trans o2)
        exact ⟨fun r1 r2 => ⟨fun _ => q.1 r1 r2, fun z => absurd rfl z⟩, fun r1 r2 r3 => ⟨fun z => absurd z (by decide), fun _ => q.2 r1 r2 r3⟩⟩
      · rw [if_pos ⟨⟨by omega, by omega⟩, by omega⟩] at kk
        refine eX5_doGuest (vX5_doGuest_0 ⟨fun z => ?_, fun _ => ⟨fun _ => (kk h1 o1').1 rfl f4, fun z => absurd rfl z⟩⟩)
        rw [hD1.1.2.2, show (6 : Int32) = nI 6 from rfl, nI_ltI (by omega) (by decide)] at z
        omega
    cases z4 : wm B (tb B L e) (te B L e) 4 with
    | true => rw [if_pos rfl]; exact guest 0 (by decide) (wx_of (i := 4) (by decide) z4) _ rfl
    | false =>
      rw [if_neg (by decide)]
      cases z5 : wm B (tb B L e) (te B L e) 5 with
      | true => rw [if_pos rfl]; exact guest 1 (by decide) (wx_of (i := 5) (by decide) z5) _ rfl
      | false =>
        rw [if_neg (by decide)]
        cases z6 : wm B (tb B L e) (te B L e) 6 with
        | true => rw [if_pos rfl]; exact guest 2 (by decide) (wx_of (i := 6) (by decide) z6) _ rfl
        | false =>
          rw [if_neg (by decide)]
          cases z7 : wm B (tb B L e) (te B L e) 7 with
          | true => rw [if_pos rfl]; exact guest 3 (by decide) (wx_of (i := 7) (by decide) z7) _ rfl
          | false =>
            rw [if_neg (by decide)]
            rw [if_pos (show wx B (tb B L e) (te B L e) = 8 from by unfold wx; rw [z0, z1, z2, z3, z4, z5, z6, z7]; rfl)] at kk
            exact ⟨fun _ => (kk h1 o1').1 rfl f4, fun z => absurd rfl z⟩
  · have hw : wx B (tb B L e) (te B L e) = 7 := wx_of (i := 3) (by decide) z3
    rw [hw, if_neg (by decide), if_neg (by omega)] at kk
    exact (kk _ (o1'.trans (OnlyT.upC (by decide) (by decide)))).2 rfl f5 ⟨⟨hD1.1.1, hD1.1.2.1, rfl⟩, fun k hk => absurd hk (Nat.not_lt_zero _)⟩
  · have hw : wx B (tb B L e) (te B L e) = 2 := wx_of (i := 2) (by decide) z2
    rw [hw, if_neg (by decide), if_neg (by omega)] at kk
    exact c_doChair (tk := true) hB hX1 hD1 f5 ht (Or.inr rfl) rfl (fun h2 o2 => (kk h2 (o1'.trans o2)).qb)
  · have hw : wx B (tb B L e) (te B L e) = 1 := wx_of (i := 1) (by decide) z1
    rw [hw, if_neg (by decide), if_neg (by omega)] at kk
    exact c_doChair (tk := false) hB hX1 hD1 f5 ht (Or.inl rfl) rfl (fun h2 o2 => (kk h2 (o1'.trans o2)).qb)
  · have hw : wx B (tb B L e) (te B L e) = 0 := wx_of (i := 0) (by decide) z0
    rw [hw, if_neg (by decide), if_neg (by omega)] at kk
    exact c_doInn hX1 hD1 f5 ht (fun h2 o2 => (kk h2 (o1'.trans o2)).qb)
end Xl
