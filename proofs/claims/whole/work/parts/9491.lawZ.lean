/-! ===== a law's lines: what is read ===== -/
/-- which word a line begins with: keep, turn, dear, or none -/
def rSrt (n : Nat) (T : Nat → Int32) (s : Nat) : Nat := if wd n T 56 s = true then 0 else if wd n T 58 s = true then 1 else if wd n T 60 s = true then 2 else 3
/-- of a line: its sort, its amount, and how many steps there are at its end -/
abbrev L1 : Type := Int32 × Int32 × Nat
def rLaw1 (n : Nat) (T : Nat → Int32) (s : Nat) (c : Cd) : Nat ⊕ (Nat × L1 × Cd) :=
  if rSrt n T s = 3 then .inl s else match nmb n T 0 99 (nw n T s) with
    | .inl e => .inl e
    | .inr p => if wd n T 62 p.2 = true then (match (lx n T 6).1 (nw n T p.2) c with | .inl e => .inl e | .inr q => .inr (q.1, (nI (rSrt n T s), nI p.1, q.2.1), q.2)) else .inr (p.2, (nI (rSrt n T s), nI p.1, c.1), c)
/-- lines read so far, and all steps -/
abbrev LTb : Type := (Nat → L1) × Cd
def rLaws (n : Nat) (T : Nat → Int32) : Nat → Nat → LTb → Nat → Nat ⊕ (Nat × LTb)
  | 0, x, L, _ => .inr (x, L)
  | k + 1, x, L, s => match rLaw1 n T s L.2 with
    | .inl e => .inl e
    | .inr p => if p.1 = n then .inr (x + 1, (up1 L.1 x p.2.1, p.2.2)) else if sgn n T 59 p.1 = true then (if x + 1 < 12 then rLaws n T k (x + 1) (up1 L.1 x p.2.1, p.2.2) (sp n T (p.1 + 1)) else .inl (sp n T (p.1 + 1))) else .inl p.1
def lt0 : LTb := (fun _ => (0, 0, 0), (0, fun _ => 0))
def rLawA (n : Nat) (T : Nat → Int32) : Nat ⊕ (Nat × LTb) := if sp n T 0 = n then .inr (0, lt0) else rLaws n T 12 0 lt0 (sp n T 0)
/-- where line k's steps begin -/
def lbg (L : LTb) (k : Nat) : Nat := match k with | 0 => 0 | k + 1 => (L.1 k).2.2
/-- the law that x lines tell -/
def lawOf (x : Nat) (L : LTb) : LW := (true, x, fun k => ((L.1 k).1, (L.1 k).2.1, (L.1 k).2.2 - lbg L k, fun q => L.2.2 (lbg L k + q)))
/-- what stands of x lines, the next place being s -/
def LOK (n x : Nat) (L : LTb) (s : Nat) : Prop := L.2.1 ≤ s ∧ x ≤ 12 ∧ lbg L x = L.2.1 ∧ ∀ k, k < x → (∃ z, z < 3 ∧ (L.1 k).1 = nI z) ∧ (∃ z, z ≤ 99 ∧ (L.1 k).2.1 = nI z) ∧ lbg L k ≤ (L.1 k).2.2 ∧ (L.1 k).2.2 ≤ L.2.1 ∧ ((L.1 k).2.2 = lbg L k ∨ ∃ ty, tc (fun q => L.2.2 (lbg L k + q)) ((L.1 k).2.2 - lbg L k) 1 ty ∧ ty 0 = true)
section LAWZ
variable {n : Nat} {T : Nat → Int32}
theorem rSrt_wd {s : Nat} (h : rSrt n T s ≠ 3) : rSrt n T s < 3 ∧ wd n T (2 * (27 + rSrt n T s) + 2) s = true := by
  revert h
  unfold rSrt
  by_cases h1 : wd n T 56 s = true
  · rw [if_pos h1]; exact fun _ => ⟨by decide, h1⟩
  rw [if_neg h1]
  by_cases h2 : wd n T 58 s = true
  · rw [if_pos h2]; exact fun _ => ⟨by decide, h2⟩
  rw [if_neg h2]
  by_cases h3 : wd n T 60 s = true
  · rw [if_pos h3]; exact fun _ => ⟨by decide, h3⟩
  rw [if_neg h3]
  exact fun q => absurd rfl q
theorem rLaw1_ok {s : Nat} {c : Cd} (hs : tks n T s) (hc : c.1 ≤ s) {p : Nat × L1 × Cd} (h : rLaw1 n T s c = .inr p) : tks n T p.1 ∧ s + 2 ≤ p.1 ∧ p.2.2.1 + s ≤ c.1 + p.1 ∧ c.1 ≤ p.2.2.1 ∧ (∀ k, k < c.1 → p.2.2.2 k = c.2 k) ∧ p.2.1.2.2 = p.2.2.1 ∧ (∃ z, z < 3 ∧ p.2.1.1 = nI z) ∧ (∃ z, z ≤ 99 ∧ p.2.1.2.1 = nI z) ∧ (p.2.2.1 = c.1 ∨ ∃ ty, tc (fun q => p.2.2.2 (c.1 + q)) (p.2.2.1 - c.1) 1 ty ∧ ty 0 = true) := by
  unfold rLaw1 at h
  by_cases h3 : rSrt n T s = 3
  · rw [if_pos h3] at h; cases h
  rw [if_neg h3] at h
  obtain ⟨r1, r2⟩ := rSrt_wd h3
  have w1 := nx_wd (k := 27 + rSrt n T s) (by omega) s hs r2
  cases hm : nmb n T 0 99 (nw n T s) with
  | inl e => rw [hm] at h; cases h
  | inr m =>
    rw [hm] at h
    dsimp only at h
    obtain ⟨m1, m2, m3, m4⟩ := nmb_gt w1.2.1 hm
    by_cases hw : wd n T 62 m.2 = true
    · rw [if_pos hw] at h
      have w2 := nx_wd (k := 30) (by decide) m.2 m2 hw
      cases hq : (lx n T 6).1 (nw n T m.2) c with
      | inl e => rw [hq] at h; cases h
      | inr q =>
        rw [hq] at h
        cases Sum.inr.inj h
        obtain ⟨g1, g2, g3⟩ := GR_at (GR_lx 6 (by decide)).1 w2.2 hq
        obtain ⟨ty, t1, t2, t3⟩ := g3 c.1 0 (fun _ => false) (Nat.zero_le _) ⟨Nat.le_refl _, by rw [Nat.sub_self]; rfl⟩
        have e1 := g2.1
        have e2 := g2.2.1
        exact ⟨g1, by show s + 2 ≤ q.1; omega, by show q.2.1 + s ≤ c.1 + q.1; omega, g2.2.2.1, g2.2.2.2, rfl, ⟨_, r1, rfl⟩, ⟨_, m4, rfl⟩, Or.inr ⟨ty, t1.2, t3⟩⟩
    · rw [if_neg hw] at h
      cases Sum.inr.inj h
      exact ⟨m2, by show s + 2 ≤ m.2; omega, by show c.1 + s ≤ c.1 + m.2; omega, Nat.le_refl _, fun k _ => rfl, rfl, ⟨_, r1, rfl⟩, ⟨_, m4, rfl⟩, Or.inl rfl⟩
theorem LOK0 : LOK n 0 lt0 0 := ⟨Nat.le_refl _, Nat.zero_le _, rfl, fun k hk => absurd hk (Nat.not_lt_zero k)⟩
theorem LOK.more {x s : Nat} {L : LTb} (h : LOK n x L s) (hx : x < 12) (hs : tks n T s) {p : Nat × L1 × Cd} (e : rLaw1 n T s L.2 = .inr p) : LOK n (x + 1) (up1 L.1 x p.2.1, p.2.2) p.1 := by
  obtain ⟨h1, h2, h3, h4⟩ := h
  obtain ⟨a1, a2, a3, a4, a5, a6, a7, a8, a9⟩ := rLaw1_ok hs h1 e
  have lb : ∀ k, k ≤ x → lbg (up1 L.1 x p.2.1, p.2.2) k = lbg L k := fun k hk => by
    cases k with
    | zero => rfl
    | succ k => exact congrArg (fun z : L1 => z.2.2) (up1_o (by omega))
  refine ⟨by show p.2.2.1 ≤ p.1; omega, by omega, ?_, fun k hk => ?_⟩
  · show (up1 L.1 x p.2.1 x).2.2 = p.2.2.1
    rw [up1_s]; exact a6
  · show (∃ z, z < 3 ∧ (up1 L.1 x p.2.1 k).1 = nI z) ∧ (∃ z, z ≤ 99 ∧ (up1 L.1 x p.2.1 k).2.1 = nI z) ∧ lbg (up1 L.1 x p.2.1, p.2.2) k ≤ (up1 L.1 x p.2.1 k).2.2 ∧ (up1 L.1 x p.2.1 k).2.2 ≤ p.2.2.1 ∧ ((up1 L.1 x p.2.1 k).2.2 = lbg (up1 L.1 x p.2.1, p.2.2) k ∨ ∃ ty, tc (fun q => p.2.2.2 (lbg (up1 L.1 x p.2.1, p.2.2) k + q)) ((up1 L.1 x p.2.1 k).2.2 - lbg (up1 L.1 x p.2.1, p.2.2) k) 1 ty ∧ ty 0 = true)
    rw [lb k (by omega)]
    by_cases c : k = x
    · subst c
      rw [up1_s, h3, a6]
      exact ⟨a7, a8, a4, Nat.le_refl _, a9⟩
    · rw [up1_o c]
      obtain ⟨b1, b2, b3, b4, b5⟩ := h4 k (by omega)
      refine ⟨b1, b2, b3, by omega, b5.imp id ?_⟩
      rintro ⟨ty, t1, t2⟩
      exact ⟨ty, tc_congr _ _ _ (fun q hq => a5 _ (by omega)) t1, t2⟩
theorem LOK.le {x s s' : Nat} {L : LTb} (h : LOK n x L s) (hs : s ≤ s') : LOK n x L s' := ⟨Nat.le_trans h.1 hs, h.2⟩
theorem LOK.wl {x s : Nat} {L : LTb} (h : LOK n x L s) (hs : s ≤ 400) : WL (lawOf x L) := by
  obtain ⟨h1, h2, h3, h4⟩ := h
  refine ⟨h2, (fun q => by cases q), fun k hk => ?_⟩
  obtain ⟨b1, b2, b3, b4, b5⟩ := h4 k hk
  refine ⟨b1, b2, by show (L.1 k).2.2 - lbg L k ≤ 400; omega, ?_⟩
  rcases b5 with b5 | b5
  · exact Or.inl (by show (L.1 k).2.2 - lbg L k = 0; omega)
  · exact Or.inr b5
end LAWZ
