/-! ===== the law: how a line's condition is reckoned, on both sides ===== -/
def up1 {α : Type} (g : Nat → α) (k : Nat) (v : α) : Nat → α := fun j => if j = k then v else g j
theorem up1_s {α : Type} {g : Nat → α} {k : Nat} {v : α} : up1 g k v k = v := if_pos rfl
theorem up1_o {α : Type} {g : Nat → α} {k j : Nat} {v : α} (h : j ≠ k) : up1 g k v j = g j := if_neg h
theorem wr_s {i : MI} {a k : Nat} {v : Int32} : wr i a k v a k = v := if_pos ⟨rfl, rfl⟩
theorem wr_k {i : MI} {a k j : Nat} {v : Int32} (h : j ≠ k) : wr i a k v a j = i a j := if_neg (fun q => h q.2)
theorem wr_a {i : MI} {a b k j : Nat} {v : Int32} (h : b ≠ a) : wr i a k v b j = i b j := if_neg (fun q => h q.1)
/-- a law: whether there is one, how many lines, and of each its sort, amount and condition (how many steps, and which) -/
abbrev LW : Type := Bool × Nat × (Nat → Int32 × Int32 × Nat × (Nat → Int32))
def fct (S : SS) (f : Nat) (ly : Int32) (s : Int32) : Int32 := if s = -1 then nI f else if s = -2 then S 2 f 0 else if s = -3 then S 2 f 1 else if s = -4 then S 2 f 2 else if s = -5 then S 0 0 6 else if s = -6 then ly else if s = -7 then rm (S 0 0 8) 100 else if s = -8 then (if 0 < S 0 0 6 then 1 else 0) else if s = -9 then (if S 2 f 3 = 2 then 1 else 0) else if s = -10 then (if S 2 f 1 < 7 then 0 else 1) else s
/-- a step that lays a value -/
def lf (s : Int32) : Prop := (∃ z, z ≤ 999 ∧ s = nI z) ∨ (∃ z, 1 ≤ z ∧ z ≤ 10 ∧ s = -nI z)
def isB (s : Int32) : Bool := decide (s = -8 ∨ s = -9 ∨ s = -10)
def stOK (s : Int32) (T' : Nat) (ty' : Nat → Bool) (T : Nat) (ty : Nat → Bool) : Prop :=
  (lf s ∧ T' < 32 ∧ T = T' + 1 ∧ (∀ j, j < T' → ty j = ty' j) ∧ ty T' = isB s) ∨
  (s = -11 ∧ 1 ≤ T' ∧ ty' (T' - 1) = true ∧ T = T' ∧ (∀ j, j < T → ty j = ty' j)) ∨
  (2 ≤ T' ∧ T = T' - 1 ∧ (∀ j, j < T' - 2 → ty j = ty' j) ∧ ((s = -12 ∧ ty' (T' - 1) = false ∧ ty' (T' - 2) = false ∧ ty (T' - 2) = false) ∨ ((s = -13 ∨ s = -14) ∧ ty' (T' - 1) = false ∧ ty' (T' - 2) = false ∧ ty (T' - 2) = true) ∨ ((s = -15 ∨ s = -16) ∧ ty' (T' - 1) = true ∧ ty' (T' - 2) = true ∧ ty (T' - 2) = true)))
/-- the first k steps of c leave T values of the sorts ty -/
def tc (c : Nat → Int32) : Nat → Nat → (Nat → Bool) → Prop
  | 0, T, _ => T = 0
  | k + 1, T, ty => ∃ T' ty', tc c k T' ty' ∧ stOK (c k) T' ty' T ty
def st1 (F : Int32 → Int32) (s : Int32) (p : Nat × (Nat → Int32)) : Nat × (Nat → Int32) :=
  if s = -11 then (p.1, up1 p.2 (p.1 - 1) (1 - p.2 (p.1 - 1)))
  else if s = -12 then (p.1 - 1, up1 p.2 (p.1 - 2) (p.2 (p.1 - 2) + p.2 (p.1 - 1)))
  else if s = -13 then (p.1 - 1, up1 p.2 (p.1 - 2) (if p.2 (p.1 - 2) < p.2 (p.1 - 1) then 1 else 0))
  else if s = -14 then (p.1 - 1, up1 p.2 (p.1 - 2) (if p.2 (p.1 - 1) < p.2 (p.1 - 2) then 1 else 0))
  else if s = -15 then (p.1 - 1, up1 p.2 (p.1 - 2) (p.2 (p.1 - 2) &&& p.2 (p.1 - 1)))
  else if s = -16 then (p.1 - 1, up1 p.2 (p.1 - 2) (p.2 (p.1 - 2) ||| p.2 (p.1 - 1)))
  else (p.1 + 1, up1 p.2 p.1 (F s))
def evs (F : Int32 → Int32) (c : Nat → Int32) : Nat → Nat × (Nat → Int32)
  | 0 => (0, fun _ => 0)
  | k + 1 => st1 F (c k) (evs F c k)
def is01 (x : Int32) : Prop := x = 0 ∨ x = 1
theorem lf_ne {s : Int32} (h : lf s) : s ≠ -11 ∧ s ≠ -12 ∧ s ≠ -13 ∧ s ≠ -14 ∧ s ≠ -15 ∧ s ≠ -16 := by
  rcases h with ⟨z, hz, rfl⟩ | ⟨z, h1, h2, rfl⟩
  · have e : (nI z).toInt = z := nI_toInt (by omega)
    refine ⟨?_, ?_, ?_, ?_, ?_, ?_⟩ <;> (intro q; have := congrArg Int32.toInt q; rw [e] at this; revert this; simp)
  · have : ∀ z, 1 ≤ z → z ≤ 10 → (-nI z ≠ -11 ∧ -nI z ≠ -12 ∧ -nI z ≠ -13 ∧ -nI z ≠ -14 ∧ -nI z ≠ -15 ∧ -nI z ≠ -16) := by
      intro z h1 h2
      exact (by decide +kernel : ∀ z, z < 11 → 1 ≤ z → (-nI z ≠ -11 ∧ -nI z ≠ -12 ∧ -nI z ≠ -13 ∧ -nI z ≠ -14 ∧ -nI z ≠ -15 ∧ -nI z ≠ -16)) z (by omega) h1
    exact this z h1 h2
theorem st1_lf {F : Int32 → Int32} {s : Int32} (h : lf s) (p : Nat × (Nat → Int32)) : st1 F s p = (p.1 + 1, up1 p.2 p.1 (F s)) := by
  obtain ⟨h1, h2, h3, h4, h5, h6⟩ := lf_ne h
  unfold st1
  rw [if_neg h1, if_neg h2, if_neg h3, if_neg h4, if_neg h5, if_neg h6]
theorem fct_B {S : SS} {f : Nat} {ly s : Int32} (h : isB s = true) : is01 (fct S f ly s) := by
  unfold isB at h
  rcases of_decide_eq_true h with rfl | rfl | rfl
  · unfold fct is01
    rw [if_neg (by decide), if_neg (by decide), if_neg (by decide), if_neg (by decide), if_neg (by decide), if_neg (by decide), if_neg (by decide), if_pos rfl]
    split <;> simp
  · unfold fct is01
    rw [if_neg (by decide), if_neg (by decide), if_neg (by decide), if_neg (by decide), if_neg (by decide), if_neg (by decide), if_neg (by decide), if_neg (by decide), if_pos rfl]
    split <;> simp
  · unfold fct is01
    rw [if_neg (by decide), if_neg (by decide), if_neg (by decide), if_neg (by decide), if_neg (by decide), if_neg (by decide), if_neg (by decide), if_neg (by decide), if_neg (by decide), if_pos rfl]
    split <;> simp
theorem and01 {x y : Int32} (hx : is01 x) (hy : is01 y) : is01 (x &&& y) ∧ (x + y = 2 ↔ x &&& y = 1) := by
  rcases hx with rfl | rfl <;> rcases hy with rfl | rfl <;> exact ⟨by unfold is01; decide, by decide⟩
theorem or01 {x y : Int32} (hx : is01 x) (hy : is01 y) : is01 (x ||| y) ∧ (0 < x + y ↔ x ||| y = 1) := by
  rcases hx with rfl | rfl <;> rcases hy with rfl | rfl <;> exact ⟨by unfold is01; decide, by decide⟩
theorem not01 {x : Int32} (hx : is01 x) : is01 (1 - x) := by
  rcases hx with rfl | rfl <;> (unfold is01; decide)
/-- how high the values stand, and which are 0 or 1 -/
theorem ev_tc {F : Int32 → Int32} (hF : ∀ s, isB s = true → is01 (F s)) {c : Nat → Int32} : ∀ (k T : Nat) (ty : Nat → Bool), tc c k T ty → (evs F c k).1 = T ∧ T ≤ 32 ∧ ∀ j, j < T → ty j = true → is01 ((evs F c k).2 j)
  | 0, T, ty, h => by
    cases h
    exact ⟨rfl, by omega, fun j hj => by omega⟩
  | k + 1, T, ty, h => by
    obtain ⟨T', ty', h1, h2⟩ := h
    obtain ⟨e1, e2, e3⟩ := ev_tc hF k T' ty' h1
    unfold evs
    rcases h2 with ⟨q1, q2, rfl, q4, q5⟩ | ⟨q1, q2, q3, rfl, q5⟩ | ⟨q1, rfl, q3, q4⟩
    · rw [st1_lf q1]
      refine ⟨by rw [e1], by omega, fun j hj ht => ?_⟩
      dsimp only
      rw [e1]
      by_cases hjT : j = T'
      · subst hjT
        rw [up1_s]
        exact hF _ (by rw [← q5]; exact ht)
      · rw [up1_o hjT]
        exact e3 j (by omega) (by rw [← q4 j (by omega)]; exact ht)
    · rw [q1]
      unfold st1
      rw [if_pos rfl]
      refine ⟨e1, e2, fun j hj ht => ?_⟩
      dsimp only
      rw [e1]
      by_cases hjT : j = T - 1
      · subst hjT
        rw [up1_s]
        exact not01 (e3 _ (by omega) q3)
      · rw [up1_o hjT]
        exact e3 j hj (by rw [← q5 j hj]; exact ht)
    · rcases q4 with ⟨q4, w1, w2, w3⟩ | ⟨q4, w1, w2, w3⟩ | ⟨q4, w1, w2, w3⟩
      · rw [q4]
        unfold st1
        rw [if_neg (by decide), if_pos rfl]
        refine ⟨by show (evs F c k).1 - 1 = _; rw [e1], by omega, fun j hj ht => ?_⟩
        dsimp only
        rw [e1]
        by_cases hjT : j = T' - 2
        · rw [hjT, w3] at ht; cases ht
        · rw [up1_o hjT]
          exact e3 j (by omega) (by rw [← q3 j (by omega)]; exact ht)
      · have hb : ∀ (x y : Int32), is01 (if x < y then (1 : Int32) else 0) := fun x y => by unfold is01; split <;> simp
        rcases q4 with q4 | q4
        · rw [q4]
          unfold st1
          rw [if_neg (by decide), if_neg (by decide), if_pos rfl]
          refine ⟨by show (evs F c k).1 - 1 = _; rw [e1], by omega, fun j hj ht => ?_⟩
          dsimp only
          rw [e1]
          by_cases hjT : j = T' - 2
          · subst hjT; rw [up1_s]; exact hb _ _
          · rw [up1_o hjT]
            exact e3 j (by omega) (by rw [← q3 j (by omega)]; exact ht)
        · rw [q4]
          unfold st1
          rw [if_neg (by decide), if_neg (by decide), if_neg (by decide), if_pos rfl]
          refine ⟨by show (evs F c k).1 - 1 = _; rw [e1], by omega, fun j hj ht => ?_⟩
          dsimp only
          rw [e1]
          by_cases hjT : j = T' - 2
          · subst hjT; rw [up1_s]; exact hb _ _
          · rw [up1_o hjT]
            exact e3 j (by omega) (by rw [← q3 j (by omega)]; exact ht)
      · have a1 := e3 (T' - 1) (by omega) w1
        have a2 := e3 (T' - 2) (by omega) w2
        rcases q4 with q4 | q4
        · rw [q4]
          unfold st1
          rw [if_neg (by decide), if_neg (by decide), if_neg (by decide), if_neg (by decide), if_pos rfl]
          refine ⟨by show (evs F c k).1 - 1 = _; rw [e1], by omega, fun j hj ht => ?_⟩
          dsimp only
          rw [e1]
          by_cases hjT : j = T' - 2
          · subst hjT; rw [up1_s]; exact (and01 a2 a1).1
          · rw [up1_o hjT]
            exact e3 j (by omega) (by rw [← q3 j (by omega)]; exact ht)
        · rw [q4]
          unfold st1
          rw [if_neg (by decide), if_neg (by decide), if_neg (by decide), if_neg (by decide), if_neg (by decide), if_pos rfl]
          refine ⟨by show (evs F c k).1 - 1 = _; rw [e1], by omega, fun j hj ht => ?_⟩
          dsimp only
          rw [e1]
          by_cases hjT : j = T' - 2
          · subst hjT; rw [up1_s]; exact (or01 a2 a1).1
          · rw [up1_o hjT]
            exact e3 j (by omega) (by rw [← q3 j (by omega)]; exact ht)
theorem tc_pre {c : Nat → Int32} : ∀ {m T : Nat} {ty : Nat → Bool}, tc c m T ty → ∀ k, k < m → ∃ T' ty' T2 ty2, tc c k T' ty' ∧ stOK (c k) T' ty' T2 ty2
  | m + 1, T, ty, h, k, hk => by
    obtain ⟨T', ty', h1, h2⟩ := h
    by_cases e : k = m
    · subst e; exact ⟨T', ty', T, ty, h1, h2⟩
    · exact tc_pre h1 k (by omega)
