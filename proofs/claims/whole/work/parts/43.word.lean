/-! the text: words and numbers -/
def wch : Nat → List Nat
  | 0 => [105, 110, 110]
  | 1 => [99, 104, 97, 105, 114]
  | 2 => [116, 97, 107, 101]
  | 3 => [110, 111, 98, 111, 100, 121]
  | 4 => [112, 108, 97, 105, 110]
  | 5 => [115, 108, 121]
  | 6 => [102, 97, 105, 110, 116]
  | _ => [115, 116, 111, 117, 116]
abbrev wl (i : Nat) : Nat := (wch i).length
abbrev wc (i j : Nat) : Nat := (wch i).getD j 0
def wcd : Nat → Int32
  | 0 => 14793
  | 1 => 19170563
  | 2 => 175156
  | 3 => 843549166
  | 4 => 14976400
  | 5 => 26003
  | 6 => 21439526
  | _ => 21675667
theorem wl_le : ∀ i, i < 8 → wl i ≤ 6 := by decide
theorem wc_lt : ∀ i, i < 8 → ∀ j, j < 6 → wc i j < 256 := by decide
theorem wcd_ok : ∀ i, i < 8 → ∀ j, j < 6 → j < wl i → (96 : Int32) + ((wcd i >>> ((5 * nI j) &&& 31)) &&& 31) = nI (wc i j) := by decide +kernel
theorem w_dif : ∀ i, i < 8 → ∀ k, k < 8 → ¬ i = k → wl i = wl k → ∃ j, j < 6 ∧ (j < wl i ∧ ¬ wc i j = wc k j) := by decide
/-- what the strings of the class answer -/
def StrOK (g : QG) : Prop := ∀ i, i < 8 → ∀ (h : Hp) (K : Int32 → Hp → Prop), (K (nI (wl i)) h → FI g mJ0_length_8abf5 [.ref (2000 + i)] h K) ∧ ∀ j, j < wl i → K (nI (wc i j)) h → FI g mJ0_charAt_5068e [.ref (2000 + i), .int (nI j)] h K
def wmB (B : Nat → Nat) (b i : Nat) : Nat → Bool
  | 0 => true
  | j + 1 => wmB B b i j && (B (b + j) == wc i j)
theorem wmB_no {B : Nat → Nat} {b i : Nat} : ∀ {j m : Nat}, j ≤ m → wmB B b i j = false → wmB B b i m = false
  | j, 0, h, e => by rw [show j = 0 by omega] at e; exact e
  | j, m + 1, h, e => by
    by_cases hi : j = m + 1
    · rw [← hi]; exact e
    · unfold wmB
      rw [wmB_no (m := m) (by omega) e]; rfl
theorem wmB_at {B : Nat → Nat} {b i j m : Nat} (h : wmB B b i m = true) (hj : j < m) : B (b + j) = wc i j := by
  cases e : wmB B b i (j + 1) with
  | false => rw [wmB_no (by omega) e] at h; cases h
  | true =>
    unfold wmB at e
    rw [Bool.and_eq_true] at e
    simpa using e.2
def wm (B : Nat → Nat) (b t i : Nat) : Bool := (t - b == wl i) && wmB B b i (wl i)
theorem wm_uniq {B : Nat → Nat} {b t i k : Nat} (hi : i < 8) (hk : k < 8) (h1 : wm B b t i = true) (h2 : wm B b t k = true) : i = k := by
  unfold wm at h1 h2
  rw [Bool.and_eq_true, beq_iff_eq] at h1 h2
  by_cases e : i = k
  · exact e
  · obtain ⟨j, -, hj, hd⟩ := w_dif i hi k hk e (by omega)
    have a1 := wmB_at h1.2 hj
    have a2 := wmB_at h2.2 (j := j) (by omega)
    exact absurd (a1.symm.trans a2) hd
theorem wm_not {B : Nat → Nat} {b t i k : Nat} (hi : i < 8) (hk : k < 8) (h1 : wm B b t i = true) (e : ¬ i = k) : wm B b t k = false := by
  cases h2 : wm B b t k with
  | false => rfl
  | true => exact absurd (wm_uniq hi hk h1 h2) e
/-- which word, by the reference's number: 8 none -/
def wx (B : Nat → Nat) (b t : Nat) : Nat := if wm B b t 0 = true then 0 else if wm B b t 1 = true then 1 else if wm B b t 2 = true then 2 else if wm B b t 3 = true then 7 else if wm B b t 4 = true then 3 else if wm B b t 5 = true then 4 else if wm B b t 6 = true then 5 else if wm B b t 7 = true then 6 else 8
theorem wx_of {B : Nat → Nat} {b t i : Nat} (hi : i < 8) (h : wm B b t i = true) : wx B b t = [0, 1, 2, 7, 3, 4, 5, 6].getD i 8 := by
  have hn : ∀ k, k < 8 → ¬ i = k → wm B b t k = false := fun k hk e => wm_not hi hk h e
  have hc : i = 0 ∨ i = 1 ∨ i = 2 ∨ i = 3 ∨ i = 4 ∨ i = 5 ∨ i = 6 ∨ i = 7 := by omega
  unfold wx
  rcases hc with rfl | rfl | rfl | rfl | rfl | rfl | rfl | rfl
  · rw [h]; rfl
  · rw [hn 0 (by decide) (by decide), h]; rfl
  · rw [hn 0 (by decide) (by decide), hn 1 (by decide) (by decide), h]; rfl
  · rw [hn 0 (by decide) (by decide), hn 1 (by decide) (by decide), hn 2 (by decide) (by decide), h]; rfl
  · rw [hn 0 (by decide) (by decide), hn 1 (by decide) (by decide), hn 2 (by decide) (by decide), hn 3 (by decide) (by decide), h]; rfl
  · rw [hn 0 (by decide) (by decide), hn 1 (by decide) (by decide), hn 2 (by decide) (by decide), hn 3 (by decide) (by decide), hn 4 (by decide) (by decide), h]; rfl
  · rw [hn 0 (by decide) (by decide), hn 1 (by decide) (by decide), hn 2 (by decide) (by decide), hn 3 (by decide) (by decide), hn 4 (by decide) (by decide), hn 5 (by decide) (by decide), h]; rfl
  · rw [hn 0 (by decide) (by decide), hn 1 (by decide) (by decide), hn 2 (by decide) (by decide), hn 3 (by decide) (by decide), hn 4 (by decide) (by decide), hn 5 (by decide) (by decide), hn 6 (by decide) (by decide), h]; rfl
theorem wx_le (B : Nat → Nat) (b t : Nat) : wx B b t ≤ 8 := by
  unfold wx
  repeat' split
  all_goals omega
theorem rn_all {P : Nat → Bool} : ∀ {d i j : Nat}, i ≤ j → j < rn P d i → P j = true
  | 0, i, j, h1, h2 => by unfold rn at h2; omega
  | d + 1, i, j, h1, h2 => by
    unfold rn at h2
    split at h2
    · rename_i hp
      by_cases e : j = i
      · rw [e]; exact hp
      · exact rn_all (d := d) (i := i + 1) (by omega) h2
    · omega
def vl (B : Nat → Nat) (b t : Nat) : Nat := if t = b + 1 then B b - 48 else 10 * (B b - 48) + (B (b + 1) - 48)
/-- the number at e -/
def nmv (B : Nat → Nat) (L e : Nat) : Option Nat := if tb B L e < L ∧ srt (B (tb B L e)) = 2 ∧ te B L e ≤ tb B L e + 2 then some (vl B (tb B L e) (te B L e)) else none
def inr (lo hi : Nat) : Option Nat → Bool
  | none => false
  | some v => decide (lo ≤ v ∧ v ≤ hi)
theorem srt_dig {c : Nat} (h : srt c = 2) : 48 ≤ c ∧ c ≤ 57 := by
  unfold srt at h
  split at h
  · omega
  · split at h
    · assumption
    · omega
theorem nm_dig {B : Nat → Nat} {L b : Nat} (hb : b < L) (hs : srt (B b) = 2) : b < tn B L b ∧ ∀ j, b ≤ j → j < tn B L b → 48 ≤ B j ∧ B j ≤ 57 := by
  have e : tn B L b = rn (fun i => srt (B i) == srt (B b)) (L - b) b := by unfold tn; rw [if_neg (by omega), if_neg (by omega)]
  rw [e]
  refine ⟨rn_gt (by omega) (by simp), fun j h1 h2 => ?_⟩
  have := rn_all h1 h2
  rw [beq_iff_eq, hs] at this
  exact srt_dig this
theorem nmv_le {B : Nat → Nat} {L e v : Nat} (h : nmv B L e = some v) : v ≤ 99 := by
  unfold nmv at h
  split at h
  · rename_i hc
    obtain ⟨h1, h2⟩ := nm_dig hc.1 hc.2.1
    have h0 := h2 _ (Nat.le_refl _) h1
    cases h
    unfold vl
    split
    · omega
    · rename_i hne
      have := h2 (tb B L e + 1) (by omega) (by have := hc.2.2; unfold te at hne; omega)
      omega
  · cases h
section Wd
variable {g : QG} {h : Hp} {K : Int32 → Hp → Prop} {KV : Hp → Prop} {B : Nat → Nat} {L : Nat}
theorem l_xword {b t i : Nat} (hQ : StrOK g) (hi : i < 8) (hX : TX h B L) (ht : t ≤ L) (e4 : h 7 4 = nI b) (hbt : t - b = wl i) (hb : b ≤ t) (hK : K (bi (wmB B b i (wl i))) h) : ∀ (d j : Nat), wl i - j = d → j ≤ wl i → wmB B b i j = true → wX5_isWord_20 g K h (nI j) i := by
  have h6 := wl_le i hi
  have hL := hX.1
  intro d
  induction d with
  | zero =>
    intro j hd hj hw
    have ej : j = wl i := by omega
    subst ej
    rw [hw] at hK
    exact vX5_isWord_20 ⟨hi, (hQ i hi h _).1 ⟨fun _ => hK, fun z => absurd (nI_le (Nat.le_refl _) (by omega)) z⟩⟩
  | succ d ih =>
    intro j hd hj hw
    have hB := hX.2.2 (b + j) (by omega)
    have hwc := wc_lt i hi j (by omega)
    refine vX5_isWord_20 ⟨hi, (hQ i hi h _).1 ⟨fun z => ?_, fun _ => ?_⟩⟩
    · rw [nI_leI (by omega) (by omega)] at z; omega
    · rw [e4, nI_add, ix_nI (by omega), hB.1]
      refine ⟨vp_in_nI (by omega) (by decide), hi, (hQ i hi h _).2 j (by omega) ?_⟩
      rw [nI_eq (by omega) (by omega), nI_1]
      refine ⟨fun z => ih (j + 1) (by omega) (by omega) (by unfold wmB; rw [hw, z]; simp), fun z => ?_⟩
      rw [wmB_no (j := j + 1) (m := wl i) (by omega) (by unfold wmB; rw [hw]; simpa using z)] at hK
      exact hK
theorem c_xword {b t i : Nat} (hQ : StrOK g) (hi : i < 8) (hX : TX h B L) (ht : t ≤ L) (hb : b ≤ t) (e4 : h 7 4 = nI b) (e5 : h 7 5 = nI t) (hK : K (bi (wm B b t i)) h) : FI g mX5_isWord [.ref 7, .ref (2000 + i)] h K := by
  have h6 := wl_le i hi
  have hL := hX.1
  refine eX5_isWord (vX5_isWord_0 ⟨hi, (hQ i hi h _).1 ?_⟩)
  rw [e4, e5, pk_sub hb, nI_eq (by omega) (by omega)]
  unfold wm at hK
  refine ⟨fun z => ?_, fun z => ?_⟩
  · rw [← z, beq_self_eq_true, Bool.true_and] at hK
    exact l_xword (g := g) hQ hi hX ht e4 z.symm hb (by rw [z]; rw [z] at hK; exact hK) (wl i) 0 rfl (Nat.zero_le _) rfl
  · rw [show (t - b == wl i) = false from by rw [beq_eq_false_iff_ne]; exact fun q => z q.symm, Bool.false_and] at hK
    exact hK
theorem l_mword {b t i : Nat} (hi : i < 8) (hX : TM h B L) (ht : t ≤ L) (e4 : h 44 15 = nI b) (hbt : t - b = wl i) (hb : b ≤ t) (hK : K (bi (wmB B b i (wl i))) h) : ∀ (d j : Nat), wl i - j = d → j ≤ wl i → wX8_isWord_22 g K h (wcd i) (nI (wl i)) (bi (wmB B b i j)) (nI j) := by
  have h6 := wl_le i hi
  have hL := hX.1
  intro d
  induction d with
  | zero =>
    intro j hd hj
    have ej : j = wl i := by omega
    subst ej
    exact vX8_isWord_22 ⟨fun _ => ⟨bi_bool _, hK⟩, fun _ => ⟨fun _ => ⟨bi_bool _, hK⟩, fun z => absurd (nI_le (Nat.le_refl _) (by omega)) z⟩⟩
  | succ d ih =>
    intro j hd hj
    have hB := hX.2.2 (b + j) (by omega)
    have hwc := wc_lt i hi j (by omega)
    refine vX8_isWord_22 (br_b (fun z => ⟨bi_bool _, ?_⟩) (fun z => ⟨fun y => ?_, fun _ => ?_⟩))
    · rw [wmB_no (j := j) (m := wl i) (by omega) z] at hK
      rw [z]; exact hK
    · rw [nI_leI (by omega) (by omega)] at y; omega
    · have nx := ih (j + 1) (by omega) (by omega)
      unfold wmB at nx
      rw [z, Bool.true_and] at nx
      rw [e4, nI_add, ix_nI (by omega), hB.1, wcd_ok i hi j (by omega) (by omega), nI_eq (by omega) (by omega), nI_1]
      refine ⟨vp_in_nI (by omega) (by decide), fun y => ?_, fun y => ?_⟩
      · rw [show (B (b + j) == wc i j) = false from by simpa using y] at nx; exact nx
      · rw [show (B (b + j) == wc i j) = true from by simpa using y] at nx; exact nx
theorem c_mword {b t i : Nat} {c l : Int32} (hi : i < 8) (hc : c = wcd i) (hl : l = nI (wl i)) (hX : TM h B L) (ht : t ≤ L) (hb : b ≤ t) (e4 : h 44 15 = nI b) (e5 : h 44 16 = nI t) (hK : K (bi (wm B b t i)) h) : FI g mX8_isWord [.ref 44, .int c, .int l] h K := by
  have h6 := wl_le i hi
  have hL := hX.1
  subst hc hl
  refine eX8_isWord (vX8_isWord_0 ?_)
  rw [e4, e5, pk_sub hb, nI_eq (by omega) (by omega)]
  unfold wm at hK
  refine ⟨fun z => ?_, fun z => ?_⟩
  · rw [show (t - b == wl i) = false from by rw [beq_eq_false_iff_ne]; exact z, Bool.false_and] at hK
    exact vX8_isWord_22 ⟨fun _ => ⟨bi_bool false, hK⟩, fun y => absurd rfl y⟩
  · rw [show (t - b == wl i) = true from by rw [beq_iff_eq]; exact z, Bool.true_and] at hK
    exact l_mword (g := g) hi hX ht e4 z hb hK (wl i) 0 rfl (Nat.zero_le _)
theorem c_guestWord {b t : Nat} (hX : TM h B L) (ht : t ≤ L) (hb : b ≤ t) (e4 : h 44 15 = nI b) (e5 : h 44 16 = nI t) (hK : K (if wm B b t 4 = true then 3 else if wm B b t 5 = true then 4 else if wm B b t 6 = true then 5 else if wm B b t 7 = true then 6 else -1) h) : FI g mX8_guestWord [.ref 44] h K := by
  refine eX8_guestWord (vX8_guestWord_0 (c_mword (i := 4) (by decide) rfl rfl hX ht hb e4 e5 (br_b (fun z4 => c_mword (i := 5) (by decide) rfl rfl hX ht hb e4 e5 (br_b (fun z5 => c_mword (i := 6) (by decide) rfl rfl hX ht hb e4 e5 (br_b (fun z6 => c_mword (i := 7) (by decide) rfl rfl hX ht hb e4 e5 (br_b (fun z7 => ?_) (fun z7 => ?_))) (fun z6 => ?_))) (fun z5 => ?_))) (fun z4 => ?_))))
  · rw [z4, z5, z6, z7] at hK; exact hK
  · rw [z4, z5, z6, z7] at hK; exact hK
  · rw [z4, z5, z6] at hK; exact hK
  · rw [z4, z5] at hK; exact hK
  · rw [z4] at hK; exact hK
theorem c_wordOf {b t : Nat} (hX : TM h B L) (ht : t ≤ L) (hb : b ≤ t) (e4 : h 44 15 = nI b) (e5 : h 44 16 = nI t) (hK : K (if wx B b t = 8 then -1 else nI (wx B b t)) h) : FI g mX8_wordOf [.ref 44] h K := by
  have got : ∀ (i : Nat) (v : Int32), i < 8 → wm B b t i = true → v = nI ([0, 1, 2, 7, 3, 4, 5, 6].getD i 8) → [0, 1, 2, 7, 3, 4, 5, 6].getD i 8 ≠ 8 → K v h := fun i v hi hw hv hne => by
    rw [wx_of hi hw, if_neg hne, ← hv] at hK
    exact hK
  refine eX8_wordOf (vX8_wordOf_0 (c_guestWord hX ht hb e4 e5 ?_))
  cases w4 : wm B b t 4 with
  | true => rw [if_pos rfl]; exact ⟨fun z => absurd z (by decide), fun _ => got 4 _ (by decide) w4 (by decide) (by decide)⟩
  | false =>
    cases w5 : wm B b t 5 with
    | true => rw [if_neg (by decide), if_pos rfl]; exact ⟨fun z => absurd z (by decide), fun _ => got 5 _ (by decide) w5 (by decide) (by decide)⟩
    | false =>
      cases w6 : wm B b t 6 with
      | true => rw [if_neg (by decide), if_neg (by decide), if_pos rfl]; exact ⟨fun z => absurd z (by decide), fun _ => got 6 _ (by decide) w6 (by decide) (by decide)⟩
      | false =>
        cases w7 : wm B b t 7 with
        | true => exact ⟨fun z => absurd z (by decide), fun _ => got 7 _ (by decide) w7 (by decide) (by decide)⟩
        | false =>
          refine ⟨fun _ => c_mword (i := 0) (by decide) rfl rfl hX ht hb e4 e5 (br_b (fun z0 => c_mword (i := 1) (by decide) rfl rfl hX ht hb e4 e5 (br_b (fun z1 => c_mword (i := 2) (by decide) rfl rfl hX ht hb e4 e5 (br_b (fun z2 => c_mword (i := 3) (by decide) rfl rfl hX ht hb e4 e5 (br_b (fun z3 => ?_) (fun z3 => ?_))) (fun z2 => ?_))) (fun z1 => ?_))) (fun z0 => ?_)), fun z => absurd rfl z⟩
          · rw [show wx B b t = 8 from by unfold wx; rw [z0, z1, z2, z3, w4, w5, w6, w7]; rfl] at hK
            exact hK
          · exact got 3 _ (by decide) z3 (by decide) (by decide)
          · exact got 2 _ (by decide) z2 (by decide) (by decide)
          · exact got 1 _ (by decide) z1 (by decide) (by decide)
          · exact got 0 _ (by decide) z0 (by decide) (by decide)
theorem a_dig {v c : Nat} (hc : 48 ≤ c) : (nI v * 10 + nI c) - 48 = nI (v * 10 + (c - 48)) := by
  rw [show (10 : Int32) = nI 10 from rfl, show (48 : Int32) = nI 48 from rfl, nI_mul, nI_add, pk_sub (by omega), show v * 10 + c - 48 = v * 10 + (c - 48) by omega]
theorem a_dig2 {v c : Nat} (hc : 48 ≤ c) : (10 * nI v + nI c) - 48 = nI (v * 10 + (c - 48)) := by
  rw [show (10 : Int32) = nI 10 from rfl, show (48 : Int32) = nI 48 from rfl, nI_mul, nI_add, pk_sub (by omega), show 10 * v + c - 48 = v * 10 + (c - 48) by omega]
theorem c_readNumber {e lo hi : Nat} (hX : TX h B L) (e5 : h 7 5 = nI e) (he : e ≤ L) (hlo : lo < 1000) (hhi : hi < 1000)
    (kk : ∀ h2 : Hp, OnlyT [] [4, 5, 6] h h2 → h2 7 4 = nI (tb B L e) → h2 7 5 = nI (te B L e) → (∀ v, nmv B L e = some v → h2 7 6 = nI v) → K (bi (inr lo hi (nmv B L e))) h2) : FI g mX5_readNumber [.ref 7, .int (nI lo), .int (nI hi)] h K := by
  have hL := hX.1
  have hb := tb_le (B := B) he
  have ht := te_le (B := B) he
  refine eX5_readNumber (vX5_readNumber_0 (c_nextToken hX e5 he (fun h1 o1 f4 f5 => ?_)))
  have hX1 := hX.keep o1 (by decide) (by decide)
  have o1' : OnlyT [] [4, 5, 6] h h1 := o1.weaken (by decide) (by decide)
  have no : ¬ (tb B L e < L ∧ srt (B (tb B L e)) = 2 ∧ te B L e ≤ tb B L e + 2) → K 0 h1 := fun hn => by
    have en : nmv B L e = none := by unfold nmv; rw [if_neg hn]
    have := kk h1 o1' f4 f5 (fun v hv => by rw [en] at hv; cases hv)
    rw [en] at this
    exact this
  rw [hX1.2.1, f4, nI_leI (by omega) (by omega), ix_nI (by omega)]
  refine ⟨fun z => no (by omega), fun z => ⟨vp_in_nI (by omega) (by decide), ?_⟩⟩
  have hB := hX1.2.2 (tb B L e) (by omega)
  rw [hB.1]
  refine c_isDigit hB.2 (br_b (fun y => no (fun q => by rw [q.2.1] at y; cases y)) (fun y => ?_))
  have hs : srt (B (tb B L e)) = 2 := by simpa using y
  obtain ⟨hgt, hdg⟩ := nm_dig (L := L) (by omega) hs
  have hgt' : tb B L e < te B L e := hgt
  rw [f4, f5, pk_sub (by omega), show (nI (te B L e - tb B L e) ≤ (2 : Int32)) ↔ te B L e - tb B L e ≤ 2 from nI_leI (b := 2) (by omega) (by decide)]
  refine ⟨fun w => ?_, fun w => no (fun q => w (by omega))⟩
  have en : nmv B L e = some (vl B (tb B L e) (te B L e)) := by unfold nmv; rw [if_pos ⟨by omega, hs, by omega⟩]
  -- the end of the loop
  have fin : ∀ (h2 : Hp), OnlyT [] [4, 5, 6] h h2 → h2 7 4 = nI (tb B L e) → h2 7 5 = nI (te B L e) → h2 7 6 = nI (vl B (tb B L e) (te B L e)) → wX5_readNumber_55 g K h2 (nI lo) (nI hi) (nI (te B L e)) := by
    intro h2 o2 k4 k5 k6
    have h99 := nmv_le en
    have hk := kk h2 o2 k4 k5 (fun v hv => by rw [en] at hv; cases hv; exact k6)
    rw [en] at hk
    refine vX5_readNumber_55 ⟨fun _ => ?_, fun z => absurd (by rw [k5]; exact nI_le (Nat.le_refl _) (by omega)) z⟩
    rw [k6, nI_ltI (by omega) (by omega), nI_ltI (by omega) (by omega)]
    refine ⟨fun q => ?_, fun q => ⟨fun r => ?_, fun r => ?_⟩⟩
    · rw [show inr lo hi (some (vl B (tb B L e) (te B L e))) = false from decide_eq_false (by omega)] at hk; exact hk
    · rw [show inr lo hi (some (vl B (tb B L e) (te B L e))) = false from decide_eq_false (by omega)] at hk; exact hk
    · rw [show inr lo hi (some (vl B (tb B L e) (te B L e))) = true from decide_eq_true (by omega)] at hk; exact hk
  have hd0 := hdg _ (Nat.le_refl _) hgt
  have step : ∀ (h2 : Hp) (i v : Nat), OnlyT [] [4, 5, 6] h h2 → h2 7 5 = nI (te B L e) → i < te B L e → tb B L e ≤ i → h2 7 6 = nI v → wX5_readNumber_55 g K (q_up h2 7 6 (nI (v * 10 + (B i - 48)))) (nI lo) (nI hi) (nI (i + 1)) → wX5_readNumber_55 g K h2 (nI lo) (nI hi) (nI i) := by
    intro h2 i v o2 k5 hi2 hbi k6 nx
    have hBi := (hX.keep o2 (by decide) (by decide)).2.2 i (by omega)
    have hdi := hdg i hbi hi2
    refine vX5_readNumber_55 ⟨fun z => ?_, fun _ => ⟨vp_in_nI (by omega) (by decide), ?_⟩⟩
    · rw [k5, nI_leI (by omega) (by omega)] at z; omega
    · rw [ix_nI (by omega), hBi.1, k6, a_dig hdi.1, nI_1]
      exact nx
  refine step _ (tb B L e) 0 (o1'.trans (OnlyT.upF (by decide))) f5 hgt' (Nat.le_refl _) rfl ?_
  by_cases e1 : te B L e = tb B L e + 1
  · have := fin (q_up (q_up h1 7 6 0) 7 6 (nI (0 * 10 + (B (tb B L e) - 48)))) ((o1'.trans (OnlyT.upF (by decide))).trans (OnlyT.upF (by decide))) f4 f5 (by rw [up_at]; unfold vl; rw [if_pos e1]; congr 1; omega)
    rw [e1] at this
    exact this
  · refine step _ (tb B L e + 1) _ ((o1'.trans (OnlyT.upF (by decide))).trans (OnlyT.upF (by decide))) f5 (by omega) (by omega) rfl ?_
    have := fin (q_up (q_up (q_up h1 7 6 0) 7 6 (nI (0 * 10 + (B (tb B L e) - 48)))) 7 6 (nI ((0 * 10 + (B (tb B L e) - 48)) * 10 + (B (tb B L e + 1) - 48)))) (((o1'.trans (OnlyT.upF (by decide))).trans (OnlyT.upF (by decide))).trans (OnlyT.upF (by decide))) f4 f5 (by rw [up_at]; unfold vl; rw [if_neg e1]; congr 1; omega)
    rw [show te B L e = tb B L e + 1 + 1 by omega] at this
    exact this
theorem c_numberHere {e : Nat} (hX : TM h B L) (he : e ≤ L) (f5 : h 44 15 = nI (tb B L e)) (f6 : h 44 16 = nI (te B L e)) (hK : K (oI (nmv B L e)) h) : FI g mX8_numberHere [.ref 44] h K := by
  have hL := hX.1
  have hb := tb_le (B := B) he
  have ht := te_le (B := B) he
  have no : ¬ (tb B L e < L ∧ srt (B (tb B L e)) = 2 ∧ te B L e ≤ tb B L e + 2) → K (-1) h := fun hn => by
    have en : nmv B L e = none := by unfold nmv; rw [if_neg hn]
    rw [en] at hK; exact hK
  refine eX8_numberHere (vX8_numberHere_0 ?_)
  rw [hX.2.1, f5, nI_eq (by omega) (by omega), ix_nI (by omega)]
  refine ⟨fun z => no (by omega), fun z => ⟨vp_in_nI (by omega) (by decide), ?_⟩⟩
  have hB := hX.2.2 (tb B L e) (by omega)
  have hs2 : srt (B (tb B L e)) ≤ 2 := by
    unfold srt
    split
    · omega
    · split <;> omega
  rw [hB.1]
  refine c_sort hB.2 ?_
  rw [show (nI (srt (B (tb B L e))) = (2 : Int32)) ↔ srt (B (tb B L e)) = 2 from nI_eq (b := 2) (by omega) (by decide)]
  refine ⟨fun y => no (fun q => y q.2.1), fun hs => ?_⟩
  obtain ⟨hgt, hdg⟩ := nm_dig (L := L) (by omega) hs
  have hgt' : tb B L e < te B L e := hgt
  rw [f5, f6, pk_sub (by omega), show (nI (te B L e - tb B L e) ≤ (2 : Int32)) ↔ te B L e - tb B L e ≤ 2 from nI_leI (b := 2) (by omega) (by decide)]
  refine ⟨fun w => ?_, fun w => no (fun q => w (by omega))⟩
  have en : nmv B L e = some (vl B (tb B L e) (te B L e)) := by unfold nmv; rw [if_pos ⟨by omega, hs, by omega⟩]
  rw [en] at hK
  have fin : wX8_numberHere_49 g K h (nI (vl B (tb B L e) (te B L e))) (nI (te B L e)) := vX8_numberHere_49 ⟨fun _ => hK, fun z => absurd (by rw [f6]; exact nI_le (Nat.le_refl _) (by omega)) z⟩
  have step : ∀ (i v : Nat), i < te B L e → tb B L e ≤ i → wX8_numberHere_49 g K h (nI (v * 10 + (B i - 48))) (nI (i + 1)) → wX8_numberHere_49 g K h (nI v) (nI i) := by
    intro i v hi2 hbi nx
    have hBi := hX.2.2 i (by omega)
    have hdi := hdg i hbi hi2
    refine vX8_numberHere_49 ⟨fun z => ?_, fun _ => ⟨vp_in_nI (by omega) (by decide), ?_⟩⟩
    · rw [f6, nI_leI (by omega) (by omega)] at z; omega
    · rw [ix_nI (by omega), hBi.1, a_dig2 hdi.1, nI_1]
      exact nx
  refine step (tb B L e) 0 hgt' (Nat.le_refl _) ?_
  by_cases e1 : te B L e = tb B L e + 1
  · unfold vl at fin
    rw [if_pos e1, e1] at fin
    rw [Nat.zero_mul, Nat.zero_add]
    exact fin
  · refine step (tb B L e + 1) _ (by omega) (by omega) ?_
    unfold vl at fin
    rw [if_neg e1, show te B L e = tb B L e + 1 + 1 by omega] at fin
    rw [Nat.zero_mul, Nat.zero_add, Nat.mul_comm]
    exact fin
end Wd
