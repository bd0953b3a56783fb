/-! what a stop does, as a relation: pure -/
/-- how far by the shorter way -/
def dst (p a b : Nat) : Nat := if p - (b + p - a) % p ≤ (b + p - a) % p then p - (b + p - a) % p else (b + p - a) % p
/-- effort, and one -/
def ef (p : Nat) (kd at_ : Nat → Nat) (g q : Nat) : Nat := dst p (at_ g) q + 1 - (if kd g = 1 then 1 else 0)
abbrev Sg : Type := Nat × (Nat → Int32) × (Nat → Int32)
def av (p n W : Nat) (s : Sg) (g q : Nat) : Prop := g < n ∧ q < p ∧ W.testBit g = true ∧ s.2.1 g = -1 ∧ s.1.testBit q = true
/-- the least pair -/
def Lst (A : Nat → Nat → Prop) (e : Nat → Nat → Nat) (g0 q0 : Nat) : Prop := A g0 q0 ∧ ∀ g q, A g q → e g0 q0 < e g q ∨ (e g0 q0 = e g q ∧ (g0 < g ∨ (g0 = g ∧ q0 ≤ q)))
def Near (p fr q r : Nat) : Prop := r < p ∧ fr.testBit r = true ∧ ∀ r2, r2 < p → fr.testBit r2 = true → dst p q r < dst p q r2 ∨ (dst p q r = dst p q r2 ∧ r ≤ r2)
/-- one guest takes a chair, a stout one two -/
def Tak (p : Nat) (kd : Nat → Nat) (g q : Nat) (s t : Sg) : Prop := t.2.1 = upd s.2.1 g (nI q) ∧
  ((kd g ≠ 3 ∧ t.1 = sdf s.1 (2 ^ q) ∧ t.2.2 = s.2.2) ∨
   (kd g = 3 ∧ (∃ r, Near p (sdf s.1 (2 ^ q)) q r ∧ t.1 = sdf (sdf s.1 (2 ^ q)) (2 ^ r) ∧ t.2.2 = upd s.2.2 g (nI r))) ∨
   (kd g = 3 ∧ (∀ r, r < p → (sdf s.1 (2 ^ q)).testBit r = false) ∧ t.1 = sdf s.1 (2 ^ q) ∧ t.2.2 = upd s.2.2 g (-1)))
def SgS (p n : Nat) (kd at_ : Nat → Nat) (W : Nat) (s t : Sg) : Prop := ∃ g q, Lst (av p n W s) (ef p kd at_) g q ∧ Tak p kd g q s t
def SgI (R : Sg → Sg → Prop) : Nat → Sg → Sg → Prop
  | 0, s, t => t = s
  | k + 1, s, t => ∃ u, R s u ∧ SgI R k u t
def SgD (p n : Nat) (kd at_ : Nat → Nat) (W : Nat) (s t : Sg) : Prop := (∃ k, SgI (SgS p n kd at_ W) k s t) ∧ ∀ g q, ¬ av p n W t g q
theorem Lst.uniq {A : Nat → Nat → Prop} {e : Nat → Nat → Nat} {g q g2 q2 : Nat} (h : Lst A e g q) (h2 : Lst A e g2 q2) : g = g2 ∧ q = q2 := by
  have a := h.2 g2 q2 h2.1
  have b := h2.2 g q h.1
  omega
theorem Near.uniq {p fr q r r2 : Nat} (h : Near p fr q r) (h2 : Near p fr q r2) : r = r2 := by
  have a := h.2.2 r2 h2.1 h2.2.1
  have b := h2.2.2 r h.1 h.2.1
  omega
theorem Tak.uniq {p : Nat} {kd : Nat → Nat} {g q : Nat} {s t t2 : Sg} (h : Tak p kd g q s t) (h2 : Tak p kd g q s t2) : t = t2 := by
  obtain ⟨f1, r1⟩ := h
  obtain ⟨f2, r2⟩ := h2
  obtain ⟨a, b, c⟩ := t
  obtain ⟨a2, b2, c2⟩ := t2
  have e1 : b = b2 := by rw [show b = _ from f1, show b2 = _ from f2]
  have e2 : a = a2 ∧ c = c2 := by
    rcases r1 with ⟨k1, x1, y1⟩ | ⟨k1, r, n1, x1, y1⟩ | ⟨k1, n1, x1, y1⟩ <;> rcases r2 with ⟨k2, x2, y2⟩ | ⟨k2, r', n2, x2, y2⟩ | ⟨k2, n2, x2, y2⟩
    · exact ⟨x1.trans x2.symm, y1.trans y2.symm⟩
    · exact absurd k2 k1
    · exact absurd k2 k1
    · exact absurd k1 k2
    · have := n1.uniq n2
      subst this
      exact ⟨x1.trans x2.symm, y1.trans y2.symm⟩
    · have := n2 r n1.1
      rw [n1.2.1] at this
      cases this
    · exact absurd k1 k2
    · have := n1 r' n2.1
      rw [n2.2.1] at this
      cases this
    · exact ⟨x1.trans x2.symm, y1.trans y2.symm⟩
  rw [e1, e2.1, e2.2]
theorem SgS.uniq {p n : Nat} {kd at_ : Nat → Nat} {W : Nat} {s t t2 : Sg} (h : SgS p n kd at_ W s t) (h2 : SgS p n kd at_ W s t2) : t = t2 := by
  obtain ⟨g, q, l1, k1⟩ := h
  obtain ⟨g2, q2, l2, k2⟩ := h2
  obtain ⟨rfl, rfl⟩ := l1.uniq l2
  exact k1.uniq k2
theorem SgS.some {p n : Nat} {kd at_ : Nat → Nat} {W : Nat} {s t : Sg} (h : SgS p n kd at_ W s t) : ∃ g q, av p n W s g q := by
  obtain ⟨g, q, l1, -⟩ := h
  exact ⟨g, q, l1.1⟩
theorem SgD.uniq {p n : Nat} {kd at_ : Nat → Nat} {W : Nat} {s t t2 : Sg} (h : SgD p n kd at_ W s t) (h2 : SgD p n kd at_ W s t2) : t = t2 := by
  obtain ⟨⟨k, i1⟩, e1⟩ := h
  obtain ⟨⟨k2, i2⟩, e2⟩ := h2
  induction k generalizing s k2 with
  | zero =>
    cases i1
    cases k2 with
    | zero => exact i2.symm
    | succ k2 =>
      obtain ⟨u, hu, -⟩ := i2
      obtain ⟨g, q, ha⟩ := hu.some
      exact absurd ha (e1 g q)
  | succ k ih =>
    obtain ⟨u, hu, i1⟩ := i1
    cases k2 with
    | zero =>
      cases i2
      obtain ⟨g, q, ha⟩ := hu.some
      exact absurd ha (e2 g q)
    | succ k2 =>
      obtain ⟨u2, hu2, i2⟩ := i2
      have := hu.uniq hu2
      subst this
      exact ih i1 k2 i2
theorem SgI.snoc {R : Sg → Sg → Prop} : ∀ {k : Nat} {s t u : Sg}, SgI R k s t → R t u → SgI R (k + 1) s u
  | 0, s, t, u, h, r => by cases h; exact ⟨u, r, rfl⟩
  | k + 1, s, t, u, ⟨v, hv, h⟩, r => ⟨v, hv, SgI.snoc h r⟩
/-- at most the first six places are looked at -/
def r6 (f : Nat → Int32) : Nat → Int32 := fun g => if g < 6 then f g else -1
theorem r6_at {f : Nat → Int32} {g : Nat} (h : g < 6) : r6 f g = f g := by simp [r6, h]
theorem r6_upd {f : Nat → Int32} {g : Nat} {v : Int32} (h : g < 6) : r6 (upd f g v) = upd (r6 f) g v := by
  funext i
  unfold r6 upd
  by_cases e : i = g
  · subst e; simp [h]
  · simp [e]
def sg0 (c : Nat) : Sg := (c, fun _ => -1, fun _ => -1)
/-- two rounds: those that aren't faint, then the faint ones -/
def Fnt (n : Nat) (kd : Nat → Nat) (S : Nat) : Prop := ∀ g, S.testBit g = (decide (g < n) && decide (kd g = 2))
/-- who stands: of a set those without a chair -/
def Std (n W : Nat) (f : Nat → Int32) (S : Nat) : Prop := ∀ g, S.testBit g = (decide (g < n) && (W.testBit g && decide (f g = -1)))
theorem Std.uniq {n W : Nat} {f : Nat → Int32} {S S2 : Nat} (h : Std n W f S) (h2 : Std n W f S2) : S = S2 := Nat.eq_of_testBit_eq (fun i => by rw [h i, h2 i])
theorem Fnt.uniq {n : Nat} {kd : Nat → Nat} {S S2 : Nat} (h : Fnt n kd S) (h2 : Fnt n kd S2) : S = S2 := Nat.eq_of_testBit_eq (fun i => by rw [h i, h2 i])
/-- STANDING at a stop: chairs c, guests of the set A at the places at_ -/
def StR (p n : Nat) (kd at_ : Nat → Nat) (c A S : Nat) : Prop := ∃ (F : Nat) (t : Sg), Fnt n kd F ∧ SgD p n kd at_ (sdf A F) (sg0 c) t ∧ Std n (sdf A F) t.2.1 S
theorem StR.uniq {p n : Nat} {kd at_ : Nat → Nat} {c A S S2 : Nat} (h : StR p n kd at_ c A S) (h2 : StR p n kd at_ c A S2) : S = S2 := by
  obtain ⟨F, t, h1, h3, h4⟩ := h
  obtain ⟨F2, t2, g1, g3, g4⟩ := h2
  have := h1.uniq g1
  subst this
  have := h3.uniq g3
  subst this
  exact h4.uniq g4
noncomputable def SS (p n : Nat) (kd at_ : Nat → Nat) (c A : Nat) : Nat := Classical.epsilon (fun S => StR p n kd at_ c A S)
theorem StR.ss {p n : Nat} {kd at_ : Nat → Nat} {c A S : Nat} (h : StR p n kd at_ c A S) : S = SS p n kd at_ c A := h.uniq (Classical.epsilon_spec (p := fun S => StR p n kd at_ c A S) ⟨S, h⟩)
