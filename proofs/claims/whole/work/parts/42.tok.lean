/-! the text: tokens -/
def srt (c : Nat) : Nat := if 97 ≤ c ∧ c ≤ 122 then 1 else if 48 ≤ c ∧ c ≤ 57 then 2 else 0
def rn (P : Nat → Bool) : Nat → Nat → Nat
  | 0, i => i
  | d + 1, i => if P i = true then rn P d (i + 1) else i
theorem rn_ge (P : Nat → Bool) : ∀ d i, i ≤ rn P d i
  | 0, i => Nat.le_refl _
  | d + 1, i => by
    have := rn_ge P d (i + 1)
    unfold rn
    split <;> omega
theorem rn_le (P : Nat → Bool) : ∀ d i, rn P d i ≤ i + d
  | 0, i => Nat.le_refl _
  | d + 1, i => by
    have := rn_le P d (i + 1)
    unfold rn
    split <;> omega
def tb (B : Nat → Nat) (L e : Nat) : Nat := rn (fun i => B i == 32) (L - e) e
def tn (B : Nat → Nat) (L b : Nat) : Nat := if L ≤ b then b else if srt (B b) = 0 then b + 1 else rn (fun i => srt (B i) == srt (B b)) (L - b) b
abbrev te (B : Nat → Nat) (L e : Nat) : Nat := tn B L (tb B L e)
theorem tb_le {B : Nat → Nat} {L e : Nat} (h : e ≤ L) : tb B L e ≤ L := by
  have := rn_le (fun i => B i == 32) (L - e) e
  unfold tb; omega
theorem tn_le {B : Nat → Nat} {L b : Nat} (h : b ≤ L) : tn B L b ≤ L := by
  have := rn_le (fun i => srt (B i) == srt (B b)) (L - b) b
  unfold tn
  split
  · exact h
  · split <;> omega
theorem tn_ge {B : Nat → Nat} {L b : Nat} : b ≤ tn B L b := by
  have := rn_ge (fun i => srt (B i) == srt (B b)) (L - b) b
  unfold tn
  split
  · omega
  · split <;> omega
theorem te_le {B : Nat → Nat} {L e : Nat} (h : e ≤ L) : te B L e ≤ L := tn_le (tb_le h)
/-- only slots J of cell 7, and cells L, change -/
def OnlyT (L J : List Nat) (h h2 : Hp) : Prop := (∀ k, k ∉ L → k ≠ 7 → h2 k = h k) ∧ ∀ j, j ∉ J → h2 7 j = h 7 j
theorem OnlyT.rf {L J : List Nat} (h : Hp) : OnlyT L J h h := ⟨fun _ _ _ => rfl, fun _ _ => rfl⟩
theorem OnlyT.trans {L J : List Nat} {h h2 h3 : Hp} (a : OnlyT L J h h2) (b : OnlyT L J h2 h3) : OnlyT L J h h3 := ⟨fun k hk h4 => (b.1 k hk h4).trans (a.1 k hk h4), fun j hj => (b.2 j hj).trans (a.2 j hj)⟩
theorem OnlyT.weaken {L J L2 J2 : List Nat} {h h2 : Hp} (a : OnlyT L J h h2) (hs : ∀ k ∈ L, k ∈ L2) (hj : ∀ k ∈ J, k ∈ J2) : OnlyT L2 J2 h h2 := ⟨fun k hk h4 => a.1 k (fun z => hk (hs k z)) h4, fun j hk => a.2 j (fun z => hk (hj j z))⟩
theorem OnlyT.upF {L J : List Nat} {h : Hp} {j : Nat} {v : Int32} (hj : j ∈ J) : OnlyT L J h (q_up h 7 j v) := ⟨fun k _ h4 => q_up_ne h4, fun i hi => up_row h 7 j v (fun e => hi (e ▸ hj))⟩
theorem OnlyT.upC {L J : List Nat} {h : Hp} {k j : Nat} {v : Int32} (hk : k ∈ L) (h4 : k ≠ 7) : OnlyT L J h (q_up h k j v) := ⟨fun q hq _ => q_up_ne (fun e => hq (e ▸ hk)), fun i _ => by rw [q_up_ne (Ne.symm h4)]⟩
/-- the text in the class, in the reference -/
def TX (h : Hp) (B : Nat → Nat) (L : Nat) : Prop := L ≤ 200 ∧ h 7 1 = nI L ∧ ∀ i, i < L → h 8 i = nI (B i) ∧ B i < 256
def TM (h : Hp) (B : Nat → Nat) (L : Nat) : Prop := L ≤ 200 ∧ h 44 3 = nI L ∧ ∀ i, i < L → h 47 i = nI (B i) ∧ B i < 256
theorem TX.keep {h h2 : Hp} {B : Nat → Nat} {L : Nat} {Ls J : List Nat} (a : TX h B L) (o : OnlyT Ls J h h2) (h8 : 8 ∉ Ls) (h1 : 1 ∉ J) : TX h2 B L := ⟨a.1, by rw [o.2 1 h1]; exact a.2.1, fun i hi => by rw [o.1 8 h8 (by decide)]; exact a.2.2 i hi⟩
theorem TM.keep {h h2 : Hp} {B : Nat → Nat} {L : Nat} {Ls J : List Nat} (a : TM h B L) (o : OnlyM Ls J h h2) (h8 : 47 ∉ Ls) (h1 : 3 ∉ J) : TM h2 B L := ⟨a.1, by rw [o.2 3 h1]; exact a.2.1, fun i hi => by rw [o.1 47 h8 (by decide)]; exact a.2.2 i hi⟩
section Tk
variable {g : QG} {h : Hp} {K : Int32 → Hp → Prop} {KV : Hp → Prop} {B : Nat → Nat} {L : Nat}
theorem c_isLetter {c : Nat} (hc : c < 256) (hK : K (bi (srt c == 1)) h) : FI g mX5_isLetter [.int (nI c)] h K := by
  refine eX5_isLetter (vX5_isLetter_0 ?_)
  rw [show (97 : Int32) = nI 97 from rfl, show (122 : Int32) = nI 122 from rfl, nI_ltI (by omega) (by decide), nI_ltI (by decide) (by omega)]
  unfold srt at hK
  refine ⟨fun z => ?_, fun z => ⟨fun y => ?_, fun y => ?_⟩⟩
  · rw [if_neg (by omega)] at hK
    split at hK <;> exact hK
  · rw [if_neg (by omega)] at hK
    split at hK <;> exact hK
  · rw [if_pos (by omega)] at hK; exact hK
theorem c_isDigit {c : Nat} (hc : c < 256) (hK : K (bi (srt c == 2)) h) : FI g mX5_isDigit [.int (nI c)] h K := by
  refine eX5_isDigit (vX5_isDigit_0 ?_)
  rw [show (48 : Int32) = nI 48 from rfl, show (57 : Int32) = nI 57 from rfl, nI_ltI (by omega) (by decide), nI_ltI (by decide) (by omega)]
  unfold srt at hK
  refine ⟨fun z => ?_, fun z => ⟨fun y => ?_, fun y => ?_⟩⟩
  · rw [if_neg (by omega), if_neg (by omega)] at hK; exact hK
  · split at hK
    · exact hK
    · rw [if_neg (by omega)] at hK; exact hK
  · rw [if_neg (by omega), if_pos (by omega)] at hK; exact hK
theorem c_sort {c : Nat} (hc : c < 256) (hK : K (nI (srt c)) h) : FI g mX8_sort [.int (nI c)] h K := by
  refine eX8_sort (vX8_sort_0 ?_)
  rw [show (97 : Int32) = nI 97 from rfl, show (122 : Int32) = nI 122 from rfl, show (48 : Int32) = nI 48 from rfl, show (57 : Int32) = nI 57 from rfl, nI_ltI (by omega) (by omega), nI_ltI (by omega) (by omega), nI_ltI (by omega) (by omega), nI_ltI (by omega) (by omega)]
  unfold srt at hK
  refine ⟨fun z => ?_, fun z => ⟨fun y => ?_, fun y => ?_⟩⟩
  · rw [if_neg (by omega)] at hK
    refine ⟨fun w => ?_, fun w => ⟨fun v => ?_, fun v => ?_⟩⟩
    · rw [if_neg (by omega)] at hK; exact hK
    · rw [if_neg (by omega)] at hK; exact hK
    · rw [if_pos (by omega)] at hK; exact hK
  · rw [if_neg (by omega)] at hK
    refine ⟨fun w => by omega, fun w => ⟨fun v => ?_, fun v => by omega⟩⟩
    rw [if_neg (by omega)] at hK; exact hK
  · rw [if_pos (by omega)] at hK; exact hK
theorem l_nt8' {h0 : Hp} {e : Nat} (hX : TX h0 B L) (kk : ∀ (h2 : Hp), OnlyT [] [4, 5] h0 h2 → h2 7 4 = nI (tb B L e) → h2 7 5 = nI (tb B L e) → wX5_nextToken_54 g KV h2) : ∀ (d i : Nat) (h : Hp), L - i = d → i ≤ L → OnlyT [] [4, 5] h0 h → h 7 4 = nI i → rn (fun i => B i == 32) d i = tb B L e → wX5_nextToken_8 g KV h := by
  obtain ⟨hL, hl, hB⟩ := hX
  intro d
  induction d with
  | zero =>
    intro i h hd hi ho e4 er
    have ei : i = L := by omega
    subst ei
    have e1 : h 7 1 = nI i := by rw [ho.2 1 (by decide)]; exact hl
    refine vX5_nextToken_8 ⟨fun _ => ?_, fun z => absurd (by rw [e1, e4]; exact nI_le (Nat.le_refl _) (by omega)) z⟩
    refine kk _ (ho.trans (OnlyT.upF (by decide))) ?_ ?_
    · rw [up_row _ _ _ _ (by decide), e4, ← er]; rfl
    · rw [up_at, e4, ← er]; rfl
  | succ d ih =>
    intro i h hd hi ho e4 er
    have e1 : h 7 1 = nI L := by rw [ho.2 1 (by decide)]; exact hl
    have hb := hB i (by omega)
    refine vX5_nextToken_8 ?_
    rw [e1, e4, nI_leI (by omega) (by omega), ix_nI (by omega), ho.1 8 (by decide) (by decide), hb.1]
    rw [show (nI (B i) = (32 : Int32)) ↔ B i = 32 from nI_eq (b := 32) (by omega) (by decide)]
    refine ⟨fun z => by omega, fun _ => ⟨vp_in_nI (by omega) (by decide), fun z => ?_, fun z => ?_⟩⟩
    · unfold rn at er
      rw [if_neg (by simpa using z)] at er
      refine kk _ (ho.trans (OnlyT.upF (by decide))) ?_ ?_
      · rw [up_row _ _ _ _ (by decide), e4, ← er]
      · rw [up_at, ← er]
    · unfold rn at er
      rw [if_pos (by simpa using z)] at er
      refine ih (i + 1) _ (by omega) (by omega) (ho.trans (OnlyT.upF (by decide))) ?_ er
      rw [up_at, nI_1]
/-- a run of letters -/
theorem l_nt54 {h0 : Hp} {b r : Nat} (hX : TX h0 B L) (kk : ∀ (h2 : Hp), OnlyT [] [4, 5] h0 h2 → h2 7 4 = nI b → h2 7 5 = nI r → b < r → KV h2) (kk2 : ∀ (h2 : Hp), OnlyT [] [4, 5] h0 h2 → h2 7 4 = nI b → h2 7 5 = nI b → r = b → wX5_nextToken_105 g KV h2) (hr : r ≤ L) : ∀ (d i : Nat) (h : Hp), L - i = d → i ≤ L → b ≤ i → OnlyT [] [4, 5] h0 h → h 7 4 = nI b → h 7 5 = nI i → rn (fun i => srt (B i) == 1) d i = r → wX5_nextToken_54 g KV h := by
  obtain ⟨hL, hl, hB⟩ := hX
  have fin : ∀ (i : Nat) (h : Hp), i ≤ L → b ≤ i → OnlyT [] [4, 5] h0 h → h 7 4 = nI b → h 7 5 = nI i → i = r → (h 7 5 ≤ h 7 4 → wX5_nextToken_105 g KV h) ∧ (¬ h 7 5 ≤ h 7 4 → KV h) := by
    intro i h hi hbi ho e4 e5 er
    refine ⟨fun z => ?_, fun z => ?_⟩
    · rw [e4, e5, nI_leI (by omega) (by omega)] at z
      have : i = b := by omega
      subst this
      exact kk2 h ho e4 e5 er.symm
    · rw [e4, e5, nI_leI (by omega) (by omega)] at z
      exact kk h ho e4 (by rw [e5, er]) (by omega)
  intro d
  induction d with
  | zero =>
    intro i h hd hi hbi ho e4 e5 er
    have ei : i = L := by omega
    subst ei
    have e1 : h 7 1 = nI i := by rw [ho.2 1 (by decide)]; exact hl
    refine vX5_nextToken_54 ⟨fun _ => fin i h hi hbi ho e4 e5 er, fun z => absurd (by rw [e1, e5]; exact nI_le (Nat.le_refl _) (by omega)) z⟩
  | succ d ih =>
    intro i h hd hi hbi ho e4 e5 er
    have e1 : h 7 1 = nI L := by rw [ho.2 1 (by decide)]; exact hl
    have hb := hB i (by omega)
    have ix : (h 7 5).toNatClampNeg = i := by rw [e5]; exact ix_nI (by omega)
    refine vX5_nextToken_54 ⟨fun z => ?_, fun _ => ⟨by rw [e5]; exact vp_in_nI (by omega) (by decide), ?_⟩⟩
    · rw [e1, e5, nI_leI (by omega) (by omega)] at z; omega
    · rw [ix, ho.1 8 (by decide) (by decide), hb.1]
      refine c_isLetter hb.2 (br_b (fun z => ?_) (fun z => ?_))
      · unfold rn at er
        rw [if_neg (by rw [z]; decide)] at er
        exact fin i h hi hbi ho e4 e5 er
      · unfold rn at er
        rw [if_pos z] at er
        refine ih (i + 1) _ (by omega) (by omega) (by omega) (ho.trans (OnlyT.upF (by decide))) ?_ ?_ er
        · rw [up_row _ _ _ _ (by decide)]; exact e4
        · rw [up_at, e5, nI_1]
theorem l_nt105 {h0 : Hp} {b r : Nat} (hX : TX h0 B L) (kk : ∀ (h2 : Hp), OnlyT [] [4, 5] h0 h2 → h2 7 4 = nI b → h2 7 5 = nI r → wX5_nextToken_144 g KV h2) : ∀ (d i : Nat) (h : Hp), L - i = d → i ≤ L → OnlyT [] [4, 5] h0 h → h 7 4 = nI b → h 7 5 = nI i → rn (fun i => srt (B i) == 2) d i = r → wX5_nextToken_105 g KV h := by
  obtain ⟨hL, hl, hB⟩ := hX
  intro d
  induction d with
  | zero =>
    intro i h hd hi ho e4 e5 er
    have ei : i = L := by omega
    subst ei
    have e1 : h 7 1 = nI i := by rw [ho.2 1 (by decide)]; exact hl
    refine vX5_nextToken_105 ⟨fun _ => kk h ho e4 (by rw [e5, ← er]; rfl), fun z => absurd (by rw [e1, e5]; exact nI_le (Nat.le_refl _) (by omega)) z⟩
  | succ d ih =>
    intro i h hd hi ho e4 e5 er
    have e1 : h 7 1 = nI L := by rw [ho.2 1 (by decide)]; exact hl
    have hb := hB i (by omega)
    have ix : (h 7 5).toNatClampNeg = i := by rw [e5]; exact ix_nI (by omega)
    refine vX5_nextToken_105 ⟨fun z => ?_, fun _ => ⟨by rw [e5]; exact vp_in_nI (by omega) (by decide), ?_⟩⟩
    · rw [e1, e5, nI_leI (by omega) (by omega)] at z; omega
    · rw [ix, ho.1 8 (by decide) (by decide), hb.1]
      refine c_isDigit hb.2 (br_b (fun z => ?_) (fun z => ?_))
      · unfold rn at er
        rw [if_neg (by rw [z]; decide)] at er
        exact kk h ho e4 (by rw [e5, ← er])
      · unfold rn at er
        rw [if_pos z] at er
        refine ih (i + 1) _ (by omega) (by omega) (ho.trans (OnlyT.upF (by decide))) ?_ ?_ er
        · rw [up_row _ _ _ _ (by decide)]; exact e4
        · rw [up_at, e5, nI_1]
theorem rn_no {P : Nat → Bool} {d i : Nat} (h : P i = false) : rn P d i = i := by
  cases d with
  | zero => rfl
  | succ d => unfold rn; rw [if_neg (by rw [h]; decide)]
theorem rn_gt {P : Nat → Bool} {d i : Nat} (hd : 0 < d) (h : P i = true) : i < rn P d i := by
  obtain ⟨k, rfl⟩ : ∃ k, d = k + 1 := ⟨d - 1, by omega⟩
  unfold rn
  rw [if_pos h]
  have := rn_ge P k (i + 1)
  omega
theorem c_nextToken {e : Nat} (hX : TX h B L) (e5 : h 7 5 = nI e) (he : e ≤ L) (kk : ∀ h2 : Hp, OnlyT [] [4, 5] h h2 → h2 7 4 = nI (tb B L e) → h2 7 5 = nI (te B L e) → KV h2) : FV g mX5_nextToken [.ref 7] h KV := by
  have hL := hX.1
  refine eX5_nextToken (vX5_nextToken_0 ?_)
  have hb := tb_le (B := B) he
  refine l_nt8' (g := g) (h0 := h) hX (fun h2 o2 e4 e5 => ?_) (L - e) e _ rfl he (OnlyT.upF (by decide)) (by rw [up_at]; exact e5) rfl
  generalize hbb : tb B L e = b at *
  have fin : te B L e = tn B L b := by unfold te; rw [hbb]
  rw [fin] at kk
  by_cases hbL : L ≤ b
  · -- at the end
    have ebL : b = L := by omega
    have tnb : tn B L b = b := by unfold tn; rw [if_pos hbL]
    rw [tnb] at kk
    have z0 : L - b = 0 := by omega
    refine l_nt54 (g := g) (h0 := h) (b := b) (r := b) hX (fun h3 _ _ _ q => by omega) (fun h3 o3 f4 f5 _ => ?_) hb (L - b) b h2 rfl hb (Nat.le_refl _) o2 e4 e5 (by rw [z0]; rfl)
    refine l_nt105 (g := g) (h0 := h) (b := b) (r := b) hX (fun h4 o4 k4 k5 => ?_) (L - b) b h3 rfl hb o3 f4 f5 (by rw [z0]; rfl)
    refine vX5_nextToken_144 ⟨fun q => absurd (by rw [k4, k5]) q, fun _ => ⟨fun _ => kk h4 o4 k4 k5, fun q => absurd ?_ q⟩⟩
    rw [o4.2 1 (by decide), hX.2.1, k5]
    exact nI_le hbL (by omega)
  · have hs3 : srt (B b) = 0 ∨ srt (B b) = 1 ∨ srt (B b) = 2 := by
      unfold srt
      split
      · omega
      · split <;> omega
    rcases hs3 with s0 | s1 | s2
    · have tnb : tn B L b = b + 1 := by unfold tn; rw [if_neg hbL, if_pos s0]
      rw [tnb] at kk
      refine l_nt54 (g := g) (h0 := h) (b := b) (r := b) hX (fun h3 _ _ _ q => by omega) (fun h3 o3 f4 f5 _ => ?_) hb (L - b) b h2 rfl hb (Nat.le_refl _) o2 e4 e5 (rn_no (by show (srt (B b) == 1) = false; rw [s0]; rfl))
      refine l_nt105 (g := g) (h0 := h) (b := b) (r := b) hX (fun h4 o4 k4 k5 => ?_) (L - b) b h3 rfl hb o3 f4 f5 (rn_no (by show (srt (B b) == 2) = false; rw [s0]; rfl))
      refine vX5_nextToken_144 ⟨fun q => absurd (by rw [k4, k5]) q, fun _ => ⟨fun q => ?_, fun _ => ?_⟩⟩
      · rw [o4.2 1 (by decide), hX.2.1, k5, nI_leI (by omega) (by omega)] at q; omega
      · refine kk _ (o4.trans (OnlyT.upF (by decide))) ?_ ?_
        · rw [up_row _ _ _ _ (by decide)]; exact k4
        · rw [up_at, k5, nI_1]
    · have tnb : tn B L b = rn (fun i => srt (B i) == 1) (L - b) b := by unfold tn; rw [if_neg hbL, if_neg (by omega), s1]
      have hr := rn_le (fun i => srt (B i) == 1) (L - b) b
      have hgt : b < rn (fun i => srt (B i) == 1) (L - b) b := rn_gt (by omega) (by show (srt (B b) == 1) = true; rw [s1]; rfl)
      rw [tnb] at kk
      exact l_nt54 (g := g) (h0 := h) (b := b) (r := rn (fun i => srt (B i) == 1) (L - b) b) hX (fun h3 o3 f4 f5 _ => kk h3 o3 f4 f5) (fun h3 _ _ _ q => by omega) (by omega) (L - b) b h2 rfl hb (Nat.le_refl _) o2 e4 e5 rfl
    · have tnb : tn B L b = rn (fun i => srt (B i) == 2) (L - b) b := by unfold tn; rw [if_neg hbL, if_neg (by omega), s2]
      have hr := rn_le (fun i => srt (B i) == 2) (L - b) b
      have hgt : b < rn (fun i => srt (B i) == 2) (L - b) b := rn_gt (by omega) (by show (srt (B b) == 2) = true; rw [s2]; rfl)
      rw [tnb] at kk
      refine l_nt54 (g := g) (h0 := h) (b := b) (r := b) hX (fun h3 _ _ _ q => by omega) (fun h3 o3 f4 f5 _ => ?_) hb (L - b) b h2 rfl hb (Nat.le_refl _) o2 e4 e5 (rn_no (by show (srt (B b) == 1) = false; rw [s2]; rfl))
      refine l_nt105 (g := g) (h0 := h) (b := b) (r := rn (fun i => srt (B i) == 2) (L - b) b) hX (fun h4 o4 k4 k5 => ?_) (L - b) b h3 rfl hb o3 f4 f5 rfl
      refine vX5_nextToken_144 ⟨fun _ => kk h4 o4 k4 k5, fun q => ?_⟩
      rw [k4, k5, nI_eq (by omega) (by omega)] at q; omega
/-- the reference's token -/
theorem l_tk0 {h0 : Hp} {e : Nat} (hX : TM h0 B L) (kk : ∀ (h2 : Hp), OnlyM [] [14, 15, 16] h0 h2 → h2 44 14 = nI (tb B L e) → wX8_token_38 g KV h2) : ∀ (d i : Nat) (h : Hp), L - i = d → i ≤ L → OnlyM [] [14, 15, 16] h0 h → h 44 14 = nI i → rn (fun i => B i == 32) d i = tb B L e → wX8_token_0 g KV h := by
  obtain ⟨hL, hl, hB⟩ := hX
  intro d
  induction d with
  | zero =>
    intro i h hd hi ho e4 er
    have ei : i = L := by omega
    subst ei
    have e1 : h 44 3 = nI i := by rw [ho.2 3 (by decide)]; exact hl
    exact vX8_token_0 ⟨fun _ => kk h ho (by rw [e4, ← er]; rfl), fun z => absurd (by rw [e1, e4]; exact nI_le (Nat.le_refl _) (by omega)) z⟩
  | succ d ih =>
    intro i h hd hi ho e4 er
    have e1 : h 44 3 = nI L := by rw [ho.2 3 (by decide)]; exact hl
    have hb := hB i (by omega)
    refine vX8_token_0 ?_
    rw [e1, e4, nI_leI (by omega) (by omega), ix_nI (by omega), ho.1 47 (by decide) (by decide), hb.1]
    rw [show (nI (B i) = (32 : Int32)) ↔ B i = 32 from nI_eq (b := 32) (by omega) (by decide)]
    refine ⟨fun z => by omega, fun _ => ⟨vp_in_nI (by omega) (by decide), fun z => ?_, fun z => ?_⟩⟩
    · unfold rn at er
      rw [if_neg (by simpa using z)] at er
      exact kk h ho (by rw [e4, ← er])
    · unfold rn at er
      rw [if_pos (by simpa using z)] at er
      refine ih (i + 1) _ (by omega) (by omega) (ho.trans (OnlyM.upF (by decide))) ?_ er
      rw [up_at, nI_1]
theorem l_tk71 {h0 : Hp} {b r : Nat} (hX : TM h0 B L) (hbL : b < L) (hs : ¬ srt (B b) = 0) (kk : ∀ (h2 : Hp), OnlyM [] [14, 15, 16] h0 h2 → h2 44 15 = nI b → h2 44 14 = nI r → h2 44 16 = nI r → KV h2) : ∀ (d i : Nat) (h : Hp), L - i = d → i ≤ L → OnlyM [] [14, 15, 16] h0 h → h 44 15 = nI b → h 44 14 = nI i → rn (fun i => srt (B i) == srt (B b)) d i = r → wX8_token_71 g KV h := by
  obtain ⟨hL, hl, hB⟩ := hX
  have hs2 : ∀ c, srt c ≤ 2 := fun c => by
    unfold srt
    split
    · omega
    · split <;> omega
  have fin : ∀ (i : Nat) (h : Hp), OnlyM [] [14, 15, 16] h0 h → h 44 15 = nI b → h 44 14 = nI i → i = r → KV (q_up h 44 16 (h 44 14)) := by
    intro i h ho e5 e4 er
    refine kk _ (ho.trans (OnlyM.upF (by decide))) ?_ ?_ ?_
    · rw [up_row _ _ _ _ (by decide)]; exact e5
    · rw [up_row _ _ _ _ (by decide), e4, er]
    · rw [up_at, e4, er]
  intro d
  induction d with
  | zero =>
    intro i h hd hi ho e5 e4 er
    have ei : i = L := by omega
    subst ei
    have e1 : h 44 3 = nI i := by rw [ho.2 3 (by decide)]; exact hl
    exact vX8_token_71 ⟨fun _ => fin i h ho e5 e4 er, fun z => absurd (by rw [e1, e4]; exact nI_le (Nat.le_refl _) (by omega)) z⟩
  | succ d ih =>
    intro i h hd hi ho e5 e4 er
    have e1 : h 44 3 = nI L := by rw [ho.2 3 (by decide)]; exact hl
    have hb := hB i (by omega)
    have hbb := hB b hbL
    have sb := hs2 (B b)
    have si := hs2 (B i)
    have ix4 : (h 44 14).toNatClampNeg = i := by rw [e4]; exact ix_nI (by omega)
    have ix5 : (h 44 15).toNatClampNeg = b := by rw [e5]; exact ix_nI (by omega)
    have v5 : vp_in (h 44 15) 200 := by rw [e5]; exact vp_in_nI (by omega) (by decide)
    have v4 : vp_in (h 44 14) 200 := by rw [e4]; exact vp_in_nI (by omega) (by decide)
    refine vX8_token_71 ⟨fun z => ?_, fun _ => ⟨v5, ?_⟩⟩
    · rw [e1, e4, nI_leI (by omega) (by omega)] at z; omega
    · rw [ix5, ho.1 47 (by decide) (by decide), hbb.1]
      refine c_sort hbb.2 ⟨fun z => ?_, fun _ => ⟨v4, ?_⟩⟩
      · rw [show (0 : Int32) = nI 0 from rfl, nI_leI (by omega) (by decide)] at z; omega
      · rw [ix4, ho.1 47 (by decide) (by decide), hb.1]
        refine c_sort hb.2 ⟨v5, ?_⟩
        rw [ix5, ho.1 47 (by decide) (by decide), hbb.1]
        refine c_sort hbb.2 ?_
        rw [nI_eq (by omega) (by omega)]
        refine ⟨fun z => ?_, fun z => ?_⟩
        · unfold rn at er
          rw [if_neg (by simpa using z)] at er
          exact fin i h ho e5 e4 er
        · unfold rn at er
          rw [if_pos (by simpa using z)] at er
          refine ih (i + 1) _ (by omega) (by omega) (ho.trans (OnlyM.upF (by decide))) ?_ ?_ er
          · rw [up_row _ _ _ _ (by decide)]; exact e5
          · rw [up_at, e4, nI_1]
theorem c_token {e : Nat} (hX : TM h B L) (e4 : h 44 14 = nI e) (he : e ≤ L) (kk : ∀ h2 : Hp, OnlyM [] [14, 15, 16] h h2 → h2 44 15 = nI (tb B L e) → h2 44 14 = nI (te B L e) → h2 44 16 = nI (te B L e) → KV h2) : FV g mX8_token [.ref 44] h KV := by
  have hL := hX.1
  have hb := tb_le (B := B) he
  refine eX8_token ?_
  refine l_tk0 (g := g) (h0 := h) hX (fun h2 o2 f4 => ?_) (L - e) e h rfl he (OnlyM.rf _) e4 rfl
  generalize hbb : tb B L e = b at *
  have fin : te B L e = tn B L b := by unfold te; rw [hbb]
  rw [fin] at kk
  have e3 : h2 44 3 = nI L := by rw [o2.2 3 (by decide)]; exact hX.2.1
  refine vX8_token_38 ?_
  rw [e3, f4, nI_leI (by omega) (by omega), Int32.add_zero, nI_1]
  refine ⟨fun z => ?_, fun z => ?_⟩
  · have tnb : tn B L b = b := by unfold tn; rw [if_pos z]
    rw [tnb] at kk
    have o3 : OnlyM [] [14, 15, 16] h (q_up (q_up h2 44 15 (nI b)) 44 14 (nI b)) := (o2.trans (OnlyM.upF (by decide))).trans (OnlyM.upF (by decide))
    refine vX8_token_71 ⟨fun _ => ?_, fun y => absurd ?_ y⟩
    · refine kk _ (o3.trans (OnlyM.upF (by decide))) ?_ ?_ ?_ <;> rfl
    · rw [o3.2 3 (by decide), hX.2.1]
      show nI L ≤ nI b
      exact nI_le z (by omega)
  · have o3 : OnlyM [] [14, 15, 16] h (q_up (q_up h2 44 15 (nI b)) 44 14 (nI (b + 1))) := (o2.trans (OnlyM.upF (by decide))).trans (OnlyM.upF (by decide))
    by_cases hs : srt (B b) = 0
    · have tnb : tn B L b = b + 1 := by unfold tn; rw [if_neg z, if_pos hs]
      rw [tnb] at kk
      have fin2 : KV (q_up (q_up (q_up h2 44 15 (nI b)) 44 14 (nI (b + 1))) 44 16 (nI (b + 1))) := by
        refine kk _ (o3.trans (OnlyM.upF (by decide))) ?_ ?_ ?_ <;> rfl
      have hbb2 := hX.2.2 b (by omega)
      have ix5 : (q_up (q_up h2 44 15 (nI b)) 44 14 (nI (b + 1)) 44 15).toNatClampNeg = b := ix_nI (k := b) (by omega)
      refine vX8_token_71 ⟨fun _ => fin2, fun _ => ⟨vp_in_nI (n := b) (by omega) (by decide), ?_⟩⟩
      rw [ix5, o3.1 47 (by decide) (by decide), hbb2.1]
      refine c_sort hbb2.2 ⟨fun _ => fin2, fun y => absurd (by rw [hs]; decide) y⟩
    · have tnb : tn B L b = rn (fun i => srt (B i) == srt (B b)) (L - (b + 1)) (b + 1) := by
        unfold tn
        rw [if_neg z, if_neg hs]
        obtain ⟨k, hk⟩ : ∃ k, L - b = k + 1 := ⟨L - b - 1, by omega⟩
        rw [hk, show L - (b + 1) = k by omega]
        show (if (srt (B b) == srt (B b)) = true then _ else _) = _
        rw [if_pos (by simp)]
      rw [tnb] at kk
      exact l_tk71 (g := g) (h0 := h) hX (by omega) hs (fun h3 o3 k5 k4 k6 => kk h3 o3 k5 k4 k6) (L - (b + 1)) (b + 1) _ rfl (by omega) o3 rfl rfl rfl
end Tk
