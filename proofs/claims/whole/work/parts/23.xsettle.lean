/-! fill, allOfKind, settle, settleFaint -/
section Xf
variable {g : QG} {h : Hp} {K : Int32 → Hp → Prop} {KV : Hp → Prop}
theorem l_fill18 {v : Int32} {h0 : Hp} (kk : ∀ h2 : Hp, Only [18] h0 h2 → (∀ j, j < 6 → h2 18 j = v) → KV h2) : ∀ (d i : Nat) (h : Hp), 6 - i = d → i ≤ 6 → Only [18] h0 h → (∀ j, j < i → h 18 j = v) → wJ7_fill_53178_r18_5 g KV h v (nI i) (nI 6) := by
  intro d
  induction d with
  | zero =>
    intro i h hd hi ho hv
    have e : i = 6 := by omega
    subst e
    exact vJ7_fill_53178_r18_5 ⟨fun _ => kk h ho hv, fun hc => absurd (nI_le (Nat.le_refl _) (by decide)) hc⟩
  | succ d ih =>
    intro i h hd hi ho hv
    refine vJ7_fill_53178_r18_5 ⟨fun hc => ?_, fun _ => ⟨vp_in_nI (by omega) (by decide), ?_⟩⟩
    · rw [nI_leI (by decide) (by omega)] at hc
      omega
    · rw [ix_nI (by omega), nI_1]
      refine ih (i + 1) _ (by omega) (by omega) (ho.trans (Only.up (by decide))) (fun j hj => ?_)
      rw [q_up_at]
      unfold upd
      split
      · rfl
      · exact hv j (by omega)
theorem c_fill18 {v : Int32} (kk : ∀ h2 : Hp, Only [18] h h2 → (∀ j, j < 6 → h2 18 j = v) → KV h2) : FV g mJ7_fill_53178 [.ref 18, .int v] h KV := eJ7_fill_53178_r18 (vJ7_fill_53178_r18_0 (l_fill18 (g := g) kk 6 0 h rfl (Nat.zero_le _) (Only.rf h) (fun j hj => by omega)))
theorem l_fill19 {v : Int32} {h0 : Hp} (kk : ∀ h2 : Hp, Only [19] h0 h2 → (∀ j, j < 12 → h2 19 j = v) → KV h2) : ∀ (d i : Nat) (h : Hp), 12 - i = d → i ≤ 12 → Only [19] h0 h → (∀ j, j < i → h 19 j = v) → wJ7_fill_53178_r19_5 g KV h v (nI i) (nI 12) := by
  intro d
  induction d with
  | zero =>
    intro i h hd hi ho hv
    have e : i = 12 := by omega
    subst e
    exact vJ7_fill_53178_r19_5 ⟨fun _ => kk h ho hv, fun hc => absurd (nI_le (Nat.le_refl _) (by decide)) hc⟩
  | succ d ih =>
    intro i h hd hi ho hv
    refine vJ7_fill_53178_r19_5 ⟨fun hc => ?_, fun _ => ⟨vp_in_nI (by omega) (by decide), ?_⟩⟩
    · rw [nI_leI (by decide) (by omega)] at hc
      omega
    · rw [ix_nI (by omega), nI_1]
      refine ih (i + 1) _ (by omega) (by omega) (ho.trans (Only.up (by decide))) (fun j hj => ?_)
      rw [q_up_at]
      unfold upd
      split
      · rfl
      · exact hv j (by omega)
theorem c_fill19 {v : Int32} (kk : ∀ h2 : Hp, Only [19] h h2 → (∀ j, j < 12 → h2 19 j = v) → KV h2) : FV g mJ7_fill_53178 [.ref 19, .int v] h KV := eJ7_fill_53178_r19 (vJ7_fill_53178_r19_0 (l_fill19 (g := g) kk 12 0 h rfl (Nat.zero_le _) (Only.rf h) (fun j hj => by omega)))
theorem l_fill23 {v : Int32} {h0 : Hp} (kk : ∀ h2 : Hp, Only [23] h0 h2 → (∀ j, j < 6 → h2 23 j = v) → KV h2) : ∀ (d i : Nat) (h : Hp), 6 - i = d → i ≤ 6 → Only [23] h0 h → (∀ j, j < i → h 23 j = v) → wJ7_fill_53178_r23_5 g KV h v (nI i) (nI 6) := by
  intro d
  induction d with
  | zero =>
    intro i h hd hi ho hv
    have e : i = 6 := by omega
    subst e
    exact vJ7_fill_53178_r23_5 ⟨fun _ => kk h ho hv, fun hc => absurd (nI_le (Nat.le_refl _) (by decide)) hc⟩
  | succ d ih =>
    intro i h hd hi ho hv
    refine vJ7_fill_53178_r23_5 ⟨fun hc => ?_, fun _ => ⟨vp_in_nI (by omega) (by decide), ?_⟩⟩
    · rw [nI_leI (by decide) (by omega)] at hc
      omega
    · rw [ix_nI (by omega), nI_1]
      refine ih (i + 1) _ (by omega) (by omega) (ho.trans (Only.up (by decide))) (fun j hj => ?_)
      rw [q_up_at]
      unfold upd
      split
      · rfl
      · exact hv j (by omega)
theorem c_fill23 {v : Int32} (kk : ∀ h2 : Hp, Only [23] h h2 → (∀ j, j < 6 → h2 23 j = v) → KV h2) : FV g mJ7_fill_53178 [.ref 23, .int v] h KV := eJ7_fill_53178_r23 (vJ7_fill_53178_r23_0 (l_fill23 (g := g) kk 6 0 h rfl (Nat.zero_le _) (Only.rf h) (fun j hj => by omega)))
theorem l_fill28 {v : Int32} {h0 : Hp} (kk : ∀ h2 : Hp, Only [28] h0 h2 → (∀ j, j < 6 → h2 28 j = v) → KV h2) : ∀ (d i : Nat) (h : Hp), 6 - i = d → i ≤ 6 → Only [28] h0 h → (∀ j, j < i → h 28 j = v) → wJ7_fill_53178_r28_5 g KV h v (nI i) (nI 6) := by
  intro d
  induction d with
  | zero =>
    intro i h hd hi ho hv
    have e : i = 6 := by omega
    subst e
    exact vJ7_fill_53178_r28_5 ⟨fun _ => kk h ho hv, fun hc => absurd (nI_le (Nat.le_refl _) (by decide)) hc⟩
  | succ d ih =>
    intro i h hd hi ho hv
    refine vJ7_fill_53178_r28_5 ⟨fun hc => ?_, fun _ => ⟨vp_in_nI (by omega) (by decide), ?_⟩⟩
    · rw [nI_leI (by decide) (by omega)] at hc
      omega
    · rw [ix_nI (by omega), nI_1]
      refine ih (i + 1) _ (by omega) (by omega) (ho.trans (Only.up (by decide))) (fun j hj => ?_)
      rw [q_up_at]
      unfold upd
      split
      · rfl
      · exact hv j (by omega)
theorem c_fill28 {v : Int32} (kk : ∀ h2 : Hp, Only [28] h h2 → (∀ j, j < 6 → h2 28 j = v) → KV h2) : FV g mJ7_fill_53178 [.ref 28, .int v] h KV := eJ7_fill_53178_r28 (vJ7_fill_53178_r28_0 (l_fill28 (g := g) kk 6 0 h rfl (Nat.zero_le _) (Only.rf h) (fun j hj => by omega)))
theorem l_fill29 {v : Int32} {h0 : Hp} (kk : ∀ h2 : Hp, Only [29] h0 h2 → (∀ j, j < 12 → h2 29 j = v) → KV h2) : ∀ (d i : Nat) (h : Hp), 12 - i = d → i ≤ 12 → Only [29] h0 h → (∀ j, j < i → h 29 j = v) → wJ7_fill_53178_r29_5 g KV h v (nI i) (nI 12) := by
  intro d
  induction d with
  | zero =>
    intro i h hd hi ho hv
    have e : i = 12 := by omega
    subst e
    exact vJ7_fill_53178_r29_5 ⟨fun _ => kk h ho hv, fun hc => absurd (nI_le (Nat.le_refl _) (by decide)) hc⟩
  | succ d ih =>
    intro i h hd hi ho hv
    refine vJ7_fill_53178_r29_5 ⟨fun hc => ?_, fun _ => ⟨vp_in_nI (by omega) (by decide), ?_⟩⟩
    · rw [nI_leI (by decide) (by omega)] at hc
      omega
    · rw [ix_nI (by omega), nI_1]
      refine ih (i + 1) _ (by omega) (by omega) (ho.trans (Only.up (by decide))) (fun j hj => ?_)
      rw [q_up_at]
      unfold upd
      split
      · rfl
      · exact hv j (by omega)
theorem c_fill29 {v : Int32} (kk : ∀ h2 : Hp, Only [29] h h2 → (∀ j, j < 12 → h2 29 j = v) → KV h2) : FV g mJ7_fill_53178 [.ref 29, .int v] h KV := eJ7_fill_53178_r29 (vJ7_fill_53178_r29_0 (l_fill29 (g := g) kk 12 0 h rfl (Nat.zero_le _) (Only.rf h) (fun j hj => by omega)))
theorem l_fill30 {v : Int32} {h0 : Hp} (kk : ∀ h2 : Hp, Only [30] h0 h2 → (∀ j, j < 6 → h2 30 j = v) → KV h2) : ∀ (d i : Nat) (h : Hp), 6 - i = d → i ≤ 6 → Only [30] h0 h → (∀ j, j < i → h 30 j = v) → wJ7_fill_53178_r30_5 g KV h v (nI i) (nI 6) := by
  intro d
  induction d with
  | zero =>
    intro i h hd hi ho hv
    have e : i = 6 := by omega
    subst e
    exact vJ7_fill_53178_r30_5 ⟨fun _ => kk h ho hv, fun hc => absurd (nI_le (Nat.le_refl _) (by decide)) hc⟩
  | succ d ih =>
    intro i h hd hi ho hv
    refine vJ7_fill_53178_r30_5 ⟨fun hc => ?_, fun _ => ⟨vp_in_nI (by omega) (by decide), ?_⟩⟩
    · rw [nI_leI (by decide) (by omega)] at hc
      omega
    · rw [ix_nI (by omega), nI_1]
      refine ih (i + 1) _ (by omega) (by omega) (ho.trans (Only.up (by decide))) (fun j hj => ?_)
      rw [q_up_at]
      unfold upd
      split
      · rfl
      · exact hv j (by omega)
theorem c_fill30 {v : Int32} (kk : ∀ h2 : Hp, Only [30] h h2 → (∀ j, j < 6 → h2 30 j = v) → KV h2) : FV g mJ7_fill_53178 [.ref 30, .int v] h KV := eJ7_fill_53178_r30 (vJ7_fill_53178_r30_0 (l_fill30 (g := g) kk 6 0 h rfl (Nat.zero_le _) (Only.rf h) (fun j hj => by omega)))
def XK (h : Hp) (n : Nat) (kd : Nat → Nat) : Prop := n ≤ 6 ∧ h 1 2 = nI n ∧ ∀ k, k < n → h 2 k = nI (kd k) ∧ kd k ≤ 3
theorem XT.xk {h : Hp} {p n : Nat} {kd at_ : Nat → Nat} (a : XT h p n kd at_) : XK h n kd := ⟨a.2.1, a.2.2.2.2.1, fun k hk => ⟨(a.2.2.2.2.2 k hk).1, (a.2.2.2.2.2 k hk).2.1⟩⟩
theorem l_kind {n : Nat} {kd : Nat → Nat} (hM : XK h n kd) (hK : K (nI (fset kd 2 n)) h) : ∀ (d i : Nat), n - i = d → i ≤ n → wX6_allOfKind_4 g K h 2 (nI (fset kd 2 i)) (nI i) := by
  intro d
  induction d with
  | zero =>
    intro i hd hi
    have e : i = n := by omega
    subst e
    exact vX6_allOfKind_4 ⟨fun _ => hK, fun hc => absurd (by rw [hM.2.1]; exact nI_le (Nat.le_refl _) (by have := hM.1; omega)) hc⟩
  | succ d ih =>
    intro i hd hi
    have h6 := hM.1
    have hk := hM.2.2 i (by omega)
    have hf := p64 (show i ≤ 6 by omega) (fset_lt kd 2 i)
    refine vX6_allOfKind_4 ⟨fun hc => ?_, fun _ => ⟨vp_in_nI (by omega) (by decide), ?_⟩⟩
    · rw [hM.2.1, nI_leI (by omega) (by omega)] at hc
      omega
    · have := ih (i + 1) (by omega) (by omega)
      rw [fset] at this
      rw [ix_nI (by omega), hk.1]
      refine ⟨fun hc => ?_, fun hc => ?_⟩
      · rw [show (2 : Int32) = nI 2 from rfl, nI_eq (by omega) (by decide)] at hc
        rw [if_neg hc, Nat.or_zero] at this
        rw [nI_1]; exact this
      · rw [show (2 : Int32) = nI 2 from rfl, nI_eq (by omega) (by decide)] at hc
        rw [if_pos hc] at this
        rw [nI_1, a_shl1 (by omega), a_or (by omega) (Nat.lt_of_lt_of_le (p_lt (n := 6) (by omega)) (by decide))]; exact this
theorem c_allOfKind {n : Nat} {kd : Nat → Nat} (hM : XK h n kd) (hK : K (nI (fset kd 2 n)) h) : FI g mX6_allOfKind [.ref 1, .int 2] h K := eX6_allOfKind (vX6_allOfKind_0 (l_kind (g := g) hM hK n 0 rfl (Nat.zero_le _)))
theorem SgI.other {p n : Nat} {kd at_ : Nat → Nat} {W : Nat} : ∀ {k : Nat} {s t : Sg}, SgI (SgS p n kd at_ W) k s t → ∀ j, W.testBit j = false → t.2.1 j = s.2.1 j ∧ t.2.2 j = s.2.2 j
  | 0, s, t, h, j, _ => by cases h; exact ⟨rfl, rfl⟩
  | k + 1, s, t, ⟨u, ⟨g, q, hl, hK⟩, h⟩, j, hj => by
    have hne : j ≠ g := fun e => by
      subst e
      rw [hl.1.2.2.1] at hj
      cases hj
    have e1 : u.2.1 j = s.2.1 j := by rw [hK.1]; simp [upd, hne]
    have e2 : u.2.2 j = s.2.2 j := by
      rcases hK.2 with ⟨-, -, e⟩ | ⟨-, r, -, -, e⟩ | ⟨-, -, -, e⟩
      · rw [e]
      · rw [e]; simp [upd, hne]
      · rw [e]; simp [upd, hne]
    have := SgI.other h j hj
    exact ⟨this.1.trans e1, this.2.trans e2⟩
theorem c_settle {p n A c : Nat} {kd at_ : Nat → Nat} (hT : XT h p n kd at_) (hA : A < 2 ^ n) (hc : c < 4096)
    (kk : ∀ (h2 : Hp) (S : Nat) (t : Sg), Only [16, 18, 19] h h2 → XS h2 n t → SgD p n kd at_ (sdf A (fset kd 2 n)) (sg0 c) t → Std n (sdf A (fset kd 2 n)) t.2.1 S → S < 64 → K (nI S) h2) : FI g mX3_settle [.ref 16, .int (nI A), .int (nI c)] h K := by
  have hn := hT.2.1
  have hA6 := p64 hn hA
  have hF := p64 hn (fset_lt kd 2 n)
  refine eX3_settle (vX3_settle_0 (c_fill18 (fun h2 o2 v2 => c_fill19 (fun h3 o3 v3 => ?_))))
  have o4 : Only [16, 18, 19] h (q_up (q_up h3 16 4 0) 16 5 (nI c)) := (((o2.weaken (by decide)).trans (o3.weaken (by decide))).trans (Only.up (by decide))).trans (Only.up (by decide))
  have hT4 := hT.keep o4 (by decide)
  refine c_allOfKind hT4.xk ?_
  rw [a_sdf (by omega) (by omega)]
  refine c_seatAll (s := sg0 c) hT4 ⟨up_at _ _ _ _, hc, fun k hk => ?_, ⟨false, by rw [up_row _ _ _ _ (by decide)]; exact up_at _ _ _ _, by simp [sg0]⟩, fun q hq => ?_, fun k _ _ => rfl⟩ (fun j => ?_) (Nat.lt_of_lt_of_le (sdf_le (n := 6) hA6) (by decide)) (fun h5 t S o5 x5 hD hSt hS => kk h5 S t (o4.trans o5) x5 hD hSt hS)
  · rw [up_cell _ _ _ _ (by decide), up_cell _ _ _ _ (by decide), o3 18 (by decide)]; exact v2 k hk
  · have e19 : (q_up (q_up h3 16 4 0) 16 5 (nI c)) 19 q = -1 := by
      rw [up_cell _ _ _ _ (by decide), up_cell _ _ _ _ (by decide)]; exact v3 q hq
    refine ⟨fun k _ hh => ?_, Or.inl e19, fun _ k _ => ⟨fun hh => ?_, fun hh => ?_⟩⟩
    · rcases hh with hh | hh <;> exact absurd hh.symm (a_m1 q (by omega))
    · exact absurd hh.symm (a_m1 q (by omega))
    · exact absurd hh.symm (a_m1 q (by omega))
  · rw [sdf_tb]
    by_cases hj : j < n
    · simp [hj, sg0]
    · simp [hj, a_ge_tb hA (Nat.le_of_not_lt hj)]
theorem c_settleFaint {p n A c : Nat} {kd at_ : Nat → Nat} {s : Sg} (hT : XT h p n kd at_) (hS : XS h n s) (hA : A < 2 ^ n) (hD : SgD p n kd at_ (sdf A (fset kd 2 n)) (sg0 c) s)
    (kk : ∀ (h2 : Hp) (t : Sg), Only [16, 18, 19] h h2 → XS h2 n t → SgD p n kd at_ (A &&& fset kd 2 n) s t → KV h2) : FV g mX3_settleFaint [.ref 16, .int (nI A)] h KV := by
  have hn := hT.2.1
  have hA6 := p64 hn hA
  have hF := p64 hn (fset_lt kd 2 n)
  refine eX3_settleFaint (vX3_settleFaint_0 (c_allOfKind hT.xk ?_))
  rw [a_and (by omega) (by omega)]
  refine c_seatAll hT hS (fun j => ?_) (Nat.lt_of_le_of_lt Nat.and_le_left hA6) (fun h5 t S o5 x5 hD2 hSt hS => kk h5 t o5 x5 hD2)
  obtain ⟨⟨k, hI⟩, -⟩ := hD
  rw [Nat.testBit_and]
  by_cases hj : j < n
  · cases hf : (fset kd 2 n).testBit j with
    | false => simp
    | true =>
      have := (SgI.other hI j (by rw [sdf_tb, hf]; simp)).1
      rw [show (sg0 c).2.1 j = -1 from rfl] at this
      simp [hj, this]
  · simp [hj, a_ge_tb hA (Nat.le_of_not_lt hj)]
end Xf
