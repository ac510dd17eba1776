/-! ===== chase ===== -/
def ctr (m : Nat → Nat → Nat → Nat) (d k c : Nat) : Nat := if d = 0 then 1 else if d < 35 then min 50 (1 + m d k c) else 50
def csk (m : Nat → Nat → Nat → Nat) (d k c : Nat) : Nat := if k = 0 then min (ctr m (d - 1) 0 c) (ctr m (d - 3) 1 c) else ctr m (d - 1) 0 c
def csc (m : Nat → Nat → Nat → Nat) (d k c : Nat) : Nat := if c = 0 then max (csk m (d + 1) k 0) (csk m (d + 2) k 1) else csk m (d + 1) k 0
def chv : Nat → Nat → Nat → Nat → Nat
  | 0, _, _, _ => 50
  | t + 1, d, k, c => csc (chv t) d k c
def eC (C x : Nat) : Nat := if x < 50 then x else C
def spChase (x w : Int32) : Int32 × Int32 := if win x 0 20 = true then (if win w 0 12 = true then (0, if x = 0 then 0 else if chv (ix w) (ix x) 0 0 ≤ ix w then nI (chv (ix w) (ix x) 0 0) else -1) else (1, 0)) else (1, 0)
theorem ctr_B {m : Nat → Nat → Nat → Nat} {t : Nat} (hm : ∀ d k c, m d k c ≤ t ∨ m d k c = 50) (d k c : Nat) : ctr m d k c ≤ t + 1 ∨ ctr m d k c = 50 := by
  unfold ctr
  have := hm d k c
  split
  · omega
  · split <;> omega
theorem csk_B {m : Nat → Nat → Nat → Nat} {t : Nat} (hm : ∀ d k c, m d k c ≤ t ∨ m d k c = 50) (d k c : Nat) : csk m d k c ≤ t + 1 ∨ csk m d k c = 50 := by
  unfold csk
  have h1 := ctr_B hm (d - 1) 0 c
  have h2 := ctr_B hm (d - 3) 1 c
  split <;> omega
theorem chv_B : ∀ t d k c, chv t d k c ≤ t ∨ chv t d k c = 50
  | 0, _, _, _ => Or.inr rfl
  | t + 1, d, k, c => by
    show csc (chv t) d k c ≤ t + 1 ∨ csc (chv t) d k c = 50
    unfold csc
    have h1 := csk_B (chv_B t) (d + 1) k 0
    have h2 := csk_B (chv_B t) (d + 2) k 1
    split <;> omega
theorem eC_le {C x : Nat} (h : 50 ≤ C) : eC C x ≤ C := by unfold eC; split <;> omega
theorem eC_tr {C x : Nat} (h : 50 ≤ C) (hx : x ≤ 12 ∨ x = 50) : min C (1 + eC C x) = eC C (min 50 (1 + x)) := by
  unfold eC
  rcases hx with hx | hx
  · rw [if_pos (by omega), if_pos (by omega)]; omega
  · rw [if_neg (by omega), if_neg (by omega)]; omega
theorem eC_min {C a b : Nat} (h : 50 ≤ C) : min (eC C a) (eC C b) = eC C (min a b) := by
  unfold eC
  by_cases h1 : a < 50
  · by_cases h2 : b < 50
    · rw [if_pos h1, if_pos h2, if_pos (by omega)]
    · rw [if_pos h1, if_neg h2, if_pos (by omega)]; omega
  · by_cases h2 : b < 50
    · rw [if_neg h1, if_pos h2, if_pos (by omega)]; omega
    · rw [if_neg h1, if_neg h2, if_neg (by omega)]; omega
theorem eC_max {C a b : Nat} (h : 50 ≤ C) : max (eC C a) (eC C b) = eC C (max a b) := by
  unfold eC
  by_cases h1 : a < 50
  · by_cases h2 : b < 50
    · rw [if_pos h1, if_pos h2, if_pos (by omega)]
    · rw [if_pos h1, if_neg h2, if_neg (by omega)]; omega
  · by_cases h2 : b < 50
    · rw [if_neg h1, if_pos h2, if_neg (by omega)]; omega
    · rw [if_neg h1, if_neg h2, if_neg (by omega)]; omega
/-- the distance that is told by x -/
def dpo (x : Int32) (d : Nat) : Prop := (0 < d ∧ x = nI d) ∨ (d = 0 ∧ ¬ 0 < x)
theorem dpo_nI {d : Nat} (h : d < 2 ^ 31) : dpo (nI d) d := by
  by_cases e : d = 0
  · subst e; exact Or.inr ⟨rfl, by decide⟩
  · exact Or.inl ⟨by omega, rfl⟩
theorem dpo_sub {a b : Nat} (hb : b < 4) : dpo (nI a - nI b) (a - b) := by
  by_cases e : b < a
  · exact Or.inl ⟨by omega, sub_nI (by omega)⟩
  · exact Or.inr ⟨by omega, (by decide +kernel : ∀ b, b < 4 → ∀ a, a < 4 → ¬ b < a → ¬ (0 : Int32) < nI a - nI b) b hb a (by omega) e⟩
theorem fl_1 : ∀ k, k < 2 → ∀ c, c < 2 → nI (k + 2 * c) &&& 2 = nI (0 + 2 * c) ∧ nI (k + 2 * c) &&& 1 = nI (k + 2 * 0) ∧ (nI (k + 2 * c) &&& 2) ||| 1 = nI (1 + 2 * c) ∧ (nI (k + 2 * c) &&& 1) ||| 2 = nI (k + 2 * 1) ∧ (nI (k + 2 * c) &&& 1 = 0 ↔ k = 0) ∧ (nI (k + 2 * c) &&& 2 = 0 ↔ c = 0) := by decide +kernel
section CHASE
variable {i : MI} {r : MR} {m : Nat → Nat → Nat → Nat}
/-- the class's row at w shows m, as far as D -/
def crw (i : MI) (w D : Nat) (m : Nat → Nat → Nat → Nat) : Prop := ∀ d, 0 < d → d ≤ D → ∀ f, f < 4 → i w (d * 4 + f) = nI (eC 99 (m d (f % 2) (f / 2)))
theorem v_chT {x : Int32} {d D k c : Nat} (hp : dpo x d) (hd : d < 34) (hD : d ≤ D) (hm : crw i (r 1603 7) D m) (hB : ∀ d k c, m d k c ≤ 12 ∨ m d k c = 50) (hk : k < 2) (hc : c < 2) : f_Co_turnsFrom r i x (nI (k + 2 * c)) = some (nI (eC 99 (ctr m d k c))) := by
  unfold f_Co_turnsFrom ctr
  rcases hp with ⟨h1, rfl⟩ | ⟨rfl, h1⟩
  · have h0 : (0 : Int32) < nI d := by rw [lit_nI 0]; exact nI_lt h1 (by omega)
    have e := hm d h1 hD (k + 2 * c) (by omega)
    rw [show (k + 2 * c) % 2 = k by omega, show (k + 2 * c) / 2 = c by omega] at e
    have hle : eC 99 (m d k c) ≤ 99 := eC_le (by omega)
    rw [if_pos h0, lit_nI 34, if_pos (nI_lt hd (by omega)), lit_nI 4, mul_nI, nI_add, grd_nI (by omega) (by omega), ix_nI (by omega), e, lit_nI 1, lit_nI 99, nI_add, j_min, Option.bind_some, jmin_nI (by omega) (by omega), eC_tr (by omega) (hB d k c), if_neg (by omega), if_pos (by omega)]
  · rw [if_neg h1, if_pos rfl]; rfl
theorem v_skgo {d D k c : Nat} (hd : d < 35) (hD : d ≤ D + 1) (hm : crw i (r 1603 7) D m) (hB : ∀ d k c, m d k c ≤ 12 ∨ m d k c = 50) (hk : k < 2) (hc : c < 2) : f_Co_skipperGoes r i (nI d) (nI (k + 2 * c)) = some (nI (eC 99 (csk m d k c))) := by
  obtain ⟨a1, a2, a3, a4, a5, a6⟩ := fl_1 k hk c hc
  have e1 := v_chT (r := r) (dpo_sub (a := d) (b := 1) (by decide)) (by omega) (by omega) hm hB (k := 0) (by decide) hc
  have e2 := v_chT (r := r) (dpo_sub (a := d) (b := 3) (by decide)) (by omega) (by omega) hm hB (k := 1) (by decide) hc
  unfold f_Co_skipperGoes csk
  rw [a3, a1, lit_nI 1, lit_nI 3, e1, Option.bind_some, ← lit_nI 1]
  by_cases hk0 : k = 0
  · rw [if_pos (a5.mpr hk0), e2, Option.bind_some, j_min, Option.bind_some, jmin_nI (Nat.lt_of_le_of_lt (eC_le (by omega)) (by decide)) (Nat.lt_of_le_of_lt (eC_le (by omega)) (by decide)), eC_min (by omega), if_pos hk0]
  · rw [if_neg (fun q => hk0 (a5.mp q)), if_neg hk0]
theorem v_scgo {d D k c : Nat} (hd : d < 33) (hD : d + 1 ≤ D) (hm : crw i (r 1603 7) D m) (hB : ∀ d k c, m d k c ≤ 12 ∨ m d k c = 50) (hk : k < 2) (hc : c < 2) : f_Co_schoolGoes r i (nI d) (nI (k + 2 * c)) = some (nI (eC 99 (csc m d k c))) := by
  obtain ⟨a1, a2, a3, a4, a5, a6⟩ := fl_1 k hk c hc
  have e1 := v_skgo (r := r) (d := d + 1) (D := D) (by omega) (by omega) hm hB hk (c := 0) (by decide)
  have e2 := v_skgo (r := r) (d := d + 2) (D := D) (by omega) (by omega) hm hB hk (c := 1) (by decide)
  unfold f_Co_schoolGoes csc
  rw [a4, a2, lit_nI 1, nI_add, e1, Option.bind_some]
  by_cases hc0 : c = 0
  · rw [if_pos (a6.mpr hc0), lit_nI 2, nI_add, e2, Option.bind_some, j_max, Option.bind_some, jmax_nI (Nat.lt_of_le_of_lt (eC_le (by omega)) (by decide)) (Nat.lt_of_le_of_lt (eC_le (by omega)) (by decide)), eC_max (by omega), if_pos hc0]
  · rw [if_neg (fun q => hc0 (a6.mp q)), if_neg hc0]
/-- the two rows of the class -/
def rws (r : MR) : Prop := (r 1603 7 = 1612 ∧ r 1603 8 = 1613) ∨ (r 1603 7 = 1613 ∧ r 1603 8 = 1612)
def f12 (i i' : MI) : Prop := ∀ b j, b ≠ 1612 → b ≠ 1613 → i' b j = i b j
theorem v_toCatch {x w : Nat} (hr : rws r) (h0 : 0 < x) (hx : x ≤ 20) (hw : w ≤ 12) : Tt (f_Co_turnsToCatch r i (nI x) (nI w)) (fun y => y.1 = (if chv w x 0 0 ≤ w then nI (chv w x 0 0) else -1) ∧ f12 i y.2.1 ∧ ∀ b j, b ≠ 1603 → y.2.2 b j = r b j) := by
  have hpos : (0 : Int32) < nI x := by rw [lit_nI 0]; exact nI_lt h0 (by omega)
  unfold f_Co_turnsToCatch
  rw [if_pos hpos]
  refine tt_bind (v_filln (by decide) 99) ?_
  intro i1 hf
  have hf12 : f12 i i1 := fun b j h1 h2 => by rw [hf, if_neg (fun q => by rcases hr with ⟨a, -⟩ | ⟨a, -⟩ <;> omega)]
  refine tt_bind (P1 := fun s => crw s.1 (s.2 1603 7) x (chv w) ∧ rws s.2 ∧ f12 i s.1 ∧ ∀ b j, b ≠ 1603 → s.2 b j = r b j)
    (tt_loop (fun q (s : Int32 × MI × MR) => s.1 = nI (q + 1) ∧ crw s.2.1 (s.2.2 1603 7) (x + w - q) (chv q) ∧ rws s.2.2 ∧ f12 i s.2.1 ∧ ∀ b j, b ≠ 1603 → s.2.2 b j = r b j) w (by omega) ?_ ?_ ⟨rfl, ?_, hr, hf12, fun _ _ _ => rfl⟩) ?_
  · rintro q hq ⟨z, i2, r2⟩ ⟨e1, e2, e3, e4, e5⟩
    dsimp only at e1 e2 e3 e4 e5 ⊢
    subst e1
    rw [if_neg (nI_nlt (by omega) (by omega)), nI_add, sub_nI (by omega)]
    have hne : r2 1603 8 ≠ r2 1603 7 := by rcases e3 with ⟨a, b⟩ | ⟨a, b⟩ <;> omega
    have h8 : r2 1603 8 = 1612 ∨ r2 1603 8 = 1613 := by rcases e3 with ⟨a, b⟩ | ⟨a, b⟩ <;> omega
    refine tt_bind (P1 := fun i' => crw i' (r2 1603 8) (x + w - (q + 1)) (chv (q + 1)) ∧ ∀ b j, b ≠ r2 1603 8 → i' b j = i2 b j)
      (tt_loop (fun n (s : Int32 × MI) => s.1 = nI (n + 1) ∧ crw s.2 (r2 1603 8) n (chv (q + 1)) ∧ ∀ b j, b ≠ r2 1603 8 → s.2 b j = i2 b j) (x + w - (q + 1)) (by omega) ?_ ?_ ⟨rfl, fun d hd hd2 => by omega, fun _ _ _ => rfl⟩) ?_
    · rintro n hn ⟨z, i3⟩ ⟨g1, g2, g3⟩
      dsimp only at g1 g2 g3 ⊢
      subst g1
      rw [if_neg (nI_nlt (by omega) (by omega)), lit_nI 34, if_pos (nI_lt (by omega) (by omega))]
      refine tt_bind (P1 := fun i' => crw i' (r2 1603 8) (n + 1) (chv (q + 1)) ∧ ∀ b j, b ≠ r2 1603 8 → i' b j = i2 b j)
        (tt_loop (fun p (s : Int32 × MI) => s.1 = nI p ∧ (∀ f, f < p → s.2 (r2 1603 8) ((n + 1) * 4 + f) = nI (eC 99 (chv (q + 1) (n + 1) (f % 2) (f / 2)))) ∧ crw s.2 (r2 1603 8) n (chv (q + 1)) ∧ ∀ b j, b ≠ r2 1603 8 → s.2 b j = i2 b j) 4 (by omega) ?_ ?_ ⟨rfl, fun f hf => by omega, g2, g3⟩) ?_
      · rintro p hp ⟨z, i4⟩ ⟨k1, k2, k3, k4⟩
        dsimp only at k1 k2 k3 k4 ⊢
        subst k1
        have hrow : crw i4 (r2 1603 7) (x + w - q) (chv q) := fun d hd hd2 f hf => (k4 _ _ (fun e => hne e.symm)).trans (e2 d hd hd2 f hf)
        have hgo := v_scgo (r := r2) (d := n + 1) (D := x + w - q) (by omega) (by omega) hrow (fun d k c => by have := chv_B q d k c; omega) (k := p % 2) (by omega) (c := p / 2) (by omega)
        rw [show p % 2 + 2 * (p / 2) = p by omega] at hgo
        rw [lit_nI 4, if_pos (nI_lt hp (by omega)), hgo, Option.bind_some, mul_nI, nI_add, grd_nI (by omega) (by omega), ix_nI (by omega)]
        refine tt_bnd (tt_some ⟨nI_1 p, fun f hf => ?_, fun d hd hd2 f hf => ?_, fun b j hb => ?_⟩)
        · show wr i4 (r2 1603 8) ((n + 1) * 4 + p) _ (r2 1603 8) ((n + 1) * 4 + f) = _
          by_cases e : f = p
          · subst e; rw [wr_s]; rfl
          · rw [wr_k (by omega)]; exact k2 f (by omega)
        · show wr i4 (r2 1603 8) ((n + 1) * 4 + p) _ (r2 1603 8) (d * 4 + f) = _
          rw [wr_k (by omega)]; exact k3 d hd hd2 f hf
        · show wr i4 (r2 1603 8) ((n + 1) * 4 + p) _ b j = _
          rw [wr_a hb]; exact k4 b j hb
      · rintro ⟨z, i4⟩ ⟨k1, k2, k3, k4⟩
        dsimp only at k1 k2 k3 k4 ⊢
        subst k1
        rw [lit_nI 4, if_neg (nI_nlt (Nat.le_refl _) (by omega))]
        refine tt_some ⟨fun d hd hd2 f hf => ?_, k4⟩
        by_cases e : d = n + 1
        · subst e; exact k2 f hf
        · exact k3 d hd (by omega) f hf
      · rintro i4 ⟨k1, k2⟩
        exact tt_some ⟨nI_1 (n + 1), k1, k2⟩
    · rintro ⟨z, i3⟩ ⟨g1, g2, g3⟩
      dsimp only at g1 g2 g3 ⊢
      subst g1
      rw [if_pos (nI_lt (by omega) (by omega))]
      exact tt_some ⟨g2, g3⟩
    · rintro i3 ⟨g1, g2⟩
      refine tt_bnd (tt_bnd (tt_some ⟨nI_1 (q + 1), ?_, ?_, fun b j h1 h2 => ?_, fun b j hb => ?_⟩))
      · show crw i3 (wrR (wrR r2 1603 7 (r2 1603 8)) 1603 8 (r2 1603 7) 1603 7) (x + w - (q + 1)) (chv (q + 1))
        rw [wrR_o (by decide), wrR_s]
        exact g1
      · show rws (wrR (wrR r2 1603 7 (r2 1603 8)) 1603 8 (r2 1603 7))
        unfold rws
        rw [wrR_o (by decide), wrR_s, wrR_s]
        rcases e3 with ⟨a, b⟩ | ⟨a, b⟩
        · exact Or.inr ⟨b, a⟩
        · exact Or.inl ⟨b, a⟩
      · exact (g2 b j (by omega)).trans (e4 b j h1 h2)
      · show wrR (wrR r2 1603 7 (r2 1603 8)) 1603 8 (r2 1603 7) b j = _
        rw [wrR_o (fun q => hb q.1), wrR_o (fun q => hb q.1)]
        exact e5 b j hb
  · rintro ⟨z, i2, r2⟩ ⟨e1, e2, e3, e4, e5⟩
    dsimp only at e1 e2 e3 e4 e5 ⊢
    subst e1
    rw [if_pos (nI_lt (by omega) (by omega))]
    exact tt_some ⟨fun d hd hd2 => e2 d hd (by omega), e3, e4, e5⟩
  · intro d hd hd2 f hf2
    show i1 (r 1603 7) (d * 4 + f) = _
    rw [hf, if_pos ⟨rfl, by omega⟩]
    rfl
  · rintro ⟨i2, r2⟩ ⟨e2, e3, e4, e5⟩
    dsimp only at e2 e3 e4 e5 ⊢
    have e := e2 x h0 (Nat.le_refl _) 0 (by decide)
    rw [lit_nI 34, if_pos (nI_lt (by omega) (by omega)), lit_nI 4, mul_nI, grd_nI (by omega) (by omega), ix_nI (by omega), show x * 4 = x * 4 + 0 from rfl, e, Option.bind_some]
    have hb := chv_B w x 0 0
    show Tt (if nI w < nI (eC 99 (chv w x 0 0)) then _ else _) _
    by_cases c : chv w x 0 0 ≤ w
    · have he : eC 99 (chv w x 0 0) = chv w x 0 0 := if_pos (by omega)
      rw [he, if_neg (nI_nlt (by omega) (by omega)), if_pos c]
      exact tt_some ⟨rfl, e4, e5⟩
    · have he : eC 99 (chv w x 0 0) = 99 := if_neg (by omega)
      rw [he, if_pos (nI_lt (by omega) (by omega)), if_neg c]
      exact tt_some ⟨rfl, e4, e5⟩
theorem v_chase (hr : rws r) {lw : Nat} (x w : Int32) : Tt (f_Lc_chase r i x w) (CO3 [20] lw i r (spChase x w)) := by
  unfold f_Lc_chase spChase
  rw [v_within]
  by_cases hx : win x 0 20 = true
  · rw [if_pos hx, if_pos hx, Option.bind_some]
    dsimp only
    rw [v_within]
    by_cases hww : win w 0 12 = true
    · rw [if_pos hww, if_pos hww, Option.bind_some]
      obtain ⟨d, hd, rfl⟩ := win_of (n := 20) (by decide) hx
      obtain ⟨n, hn, rfl⟩ := win_of (n := 12) (by decide) hww
      dsimp only
      by_cases h0 : d = 0
      · subst h0
        unfold f_Co_turnsToCatch
        rw [if_neg (by decide), if_pos (by decide)]
        exact tt_some ⟨rfl, CQ.refl _ _, fun _ _ _ => rfl⟩
      · refine tt_bind (v_toCatch hr (by omega) hd hn) ?_
        rintro ⟨v, i2, r2⟩ ⟨e1, e2, e3⟩
        dsimp only at e1 e2 e3 ⊢
        subst e1
        rw [if_neg (fun q => h0 ((nI_z (by omega)).mp q)), ix_nI (by omega), ix_nI (by omega)]
        exact tt_some ⟨rfl, fun b j _ hb => e2 b j (fun q => hb (by unfold cqs; omega)) (fun q => hb (by unfold cqs; omega)), fun b k hb => e3 b k (fun q => hb (by unfold cqs; omega))⟩
    · rw [if_neg hww, if_neg hww]; exact tt_some ⟨rfl, CQ.refl _ _, fun _ _ _ => rfl⟩
  · rw [if_neg hx, if_neg hx]; exact tt_some ⟨rfl, CQ.refl _ _, fun _ _ _ => rfl⟩
/-! the reference -/
def cT (z : Nat) : Int32 := if z % 35 = 0 then 0 else nI (eC 1000000 (chv (z / 140) (z % 35) (z / 35 % 4 / 2) (z / 35 % 2)))
theorem cT_at {q f d : Nat} (hd : d < 35) (h0 : 0 < d) (hf : f < 4) : cT ((4 * q + f) * 35 + d) = nI (eC 1000000 (chv q d (f / 2) (f % 2))) := by
  unfold cT
  rw [show ((4 * q + f) * 35 + d) % 35 = d by omega, show ((4 * q + f) * 35 + d) / 140 = q by omega, show ((4 * q + f) * 35 + d) / 35 % 4 / 2 = f / 2 by omega, show ((4 * q + f) * 35 + d) / 35 % 2 = f % 2 by omega, if_neg (by omega)]
theorem mo_fl : ∀ f, f < 4 → f_Mo_has (nI f) 0 = some (nI (f % 2)) ∧ f_Mo_has (nI f) 1 = some (nI (f / 2)) := by decide +kernel
theorem mo_at {q f d : Nat} : f_Mo_chasedAt (nI d) (nI f) (nI q) = some (nI ((4 * q + f) * 35 + d)) := by
  unfold f_Mo_chasedAt
  rw [lit_nI 4, lit_nI 35, mul_nI, nI_add, mul_nI, nI_add]
theorem m_tBehind {x : Int32} {q d f : Nat} (hp : dpo x d) (hd : d < 2 ^ 31) (hq : q < 12) (hf : f < 4) (hm : ∀ z, z < 140 * (q + 1) → i 1656 z = cT z) : f_Mo_turnsBehind i x (nI f) (nI (q + 1)) = some (nI (eC 1000000 (ctr (chv q) d (f / 2) (f % 2)))) := by
  unfold f_Mo_turnsBehind ctr
  rcases hp with ⟨h1, rfl⟩ | ⟨rfl, h1⟩
  · have h0 : (0 : Int32) < nI d := by rw [lit_nI 0]; exact nI_lt h1 (by omega)
    rw [if_pos h0, lit_nI 35, if_neg (show ¬ d = 0 by omega)]
    by_cases c : d < 35
    · have hle : eC 1000000 (chv q d (f / 2) (f % 2)) ≤ 1000000 := eC_le (by omega)
      have hB := chv_B q d (f / 2) (f % 2)
      rw [if_pos (nI_lt c (by omega)), nI_pred, mo_at, Option.bind_some, grd_nI (by omega) (by omega), ix_nI (by omega), hm _ (by omega), cT_at c h1 hf, lit_nI 1, lit_nI 1000000, nI_add, j_min, Option.bind_some, jmin_nI (by omega) (by omega), eC_tr (by omega) (by omega), if_pos c]
    · rw [if_neg (nI_nlt (by omega) (by omega)), if_neg c]; rfl
  · rw [if_neg h1, if_pos rfl]; rfl
theorem m_chasedBy {q d f : Nat} (hd : d < 35) (hq : q < 12) (hf : f < 4) (hm : ∀ z, z < 140 * (q + 1) → i 1656 z = cT z) : f_Mo_chasedBy i (nI d) (nI f) (nI (q + 1)) = some (nI (eC 1000000 (chv (q + 1) d (f / 2) (f % 2)))) := by
  have key : Tt (f_Mo_chasedBy i (nI d) (nI f) (nI (q + 1))) (fun v => v = nI (eC 1000000 (chv (q + 1) d (f / 2) (f % 2)))) := by
    obtain ⟨a1, a2⟩ := mo_fl f hf
    have hle : ∀ x, eC 1000000 x < 2 ^ 31 := fun x => Nat.lt_of_le_of_lt (eC_le (by omega)) (by decide)
    have t1 : f_Mo_turnsBehind i (nI d + 1 - 1) 0 (nI (q + 1)) = some (nI (eC 1000000 (ctr (chv q) d 0 0))) := by
      rw [show nI d + 1 - 1 = nI d by rw [lit_nI 1, nI_add, ← lit_nI 1, nI_pred]]
      exact m_tBehind (dpo_nI (d := d) (by omega)) (by omega) hq (f := 0) (by decide) hm
    have t2 : f_Mo_turnsBehind i (nI d + 1 - 3) (0 + 2) (nI (q + 1)) = some (nI (eC 1000000 (ctr (chv q) (d + 1 - 3) 1 0))) := by
      rw [show nI d + 1 - 3 = nI (d + 1) - nI 3 by rw [lit_nI 1, nI_add]; rfl]
      exact m_tBehind (dpo_sub (a := d + 1) (b := 3) (by decide)) (by omega) hq (f := 2) (by decide) hm
    have t3 : f_Mo_turnsBehind i (nI d + 2 - 1) 1 (nI (q + 1)) = some (nI (eC 1000000 (ctr (chv q) (d + 1) 0 1))) := by
      rw [show nI d + 2 - 1 = nI (d + 1) by rw [lit_nI 2, nI_add, show d + 2 = (d + 1) + 1 from rfl, nI_pred]]
      exact m_tBehind (dpo_nI (d := d + 1) (by omega)) (by omega) hq (f := 1) (by decide) hm
    have t4 : f_Mo_turnsBehind i (nI d + 2 - 3) (1 + 2) (nI (q + 1)) = some (nI (eC 1000000 (ctr (chv q) (d + 2 - 3) 1 1))) := by
      rw [show nI d + 2 - 3 = nI (d + 2) - nI 3 by rw [lit_nI 2, nI_add]; rfl]
      exact m_tBehind (dpo_sub (a := d + 2) (b := 3) (by decide)) (by omega) hq (f := 3) (by decide) hm
    unfold f_Mo_chasedBy
    refine tt_bind (P1 := fun v => v = nI (eC 1000000 (chv (q + 1) d (f / 2) (f % 2))))
      (tt_loop (fun j (s : Int32 × Int32) => s.2 = nI (j + 1) ∧ s.1 = nI (eC 1000000 (if j = 0 then 0 else if j = 1 then csk (chv q) (d + 1) (f / 2) 0 else csc (chv q) d (f / 2) (f % 2)))) 2 (by omega) ?_ ?_ ⟨rfl, rfl⟩) (fun v hv => tt_some hv)
    · rintro j hj ⟨x, z⟩ ⟨g1, g2⟩
      dsimp only at g1 g2 ⊢
      subst g1
      rcases (by omega : j = 0 ∨ j = 1) with rfl | rfl
      · rw [show nI (0 + 1) = (1 : Int32) from rfl, if_neg (show ¬ (2 : Int32) < 1 by decide), if_neg (show ¬ (1 : Int32) = 2 by decide), if_neg (show ¬ (1 : Int32) = 2 by decide), Option.bind_some, t1, Option.bind_some, a2, Option.bind_some]
        rw [if_pos rfl] at g2
        by_cases k0 : f / 2 = 0
        · rw [if_pos (show nI (f / 2) = 0 by rw [k0]; rfl), t2, Option.bind_some, j_min, Option.bind_some, jmin_nI (hle _) (hle _), eC_min (by omega), Option.bind_some, g2, j_max, Option.bind_some, jmax_nI (hle _) (hle _), eC_max (by omega), Nat.zero_max, Option.bind_some]
          refine tt_some ⟨rfl, ?_⟩
          show _ = nI (eC 1000000 (csk (chv q) (d + 1) (f / 2) 0))
          unfold csk
          rw [if_pos k0]; rfl
        · rw [if_neg (show ¬ nI (f / 2) = 0 from fun q => k0 ((nI_z (by omega)).mp q)), Option.bind_some, g2, j_max, Option.bind_some, jmax_nI (hle _) (hle _), eC_max (by omega), Nat.zero_max, Option.bind_some]
          refine tt_some ⟨rfl, ?_⟩
          show _ = nI (eC 1000000 (csk (chv q) (d + 1) (f / 2) 0))
          unfold csk
          rw [if_neg k0]; rfl
      · rw [show nI (1 + 1) = (2 : Int32) from rfl, if_neg (show ¬ (2 : Int32) < 2 by decide), if_pos (show (2 : Int32) = 2 from rfl), a1, Option.bind_some]
        rw [if_neg (by decide), if_pos rfl] at g2
        by_cases c0 : f % 2 = 0
        · rw [if_pos (show nI (f % 2) = 0 by rw [c0]; rfl), if_pos (show (2 : Int32) = 2 from rfl), Option.bind_some, t3, Option.bind_some, a2, Option.bind_some]
          by_cases k0 : f / 2 = 0
          · rw [if_pos (show nI (f / 2) = 0 by rw [k0]; rfl), t4, Option.bind_some, j_min, Option.bind_some, jmin_nI (hle _) (hle _), eC_min (by omega), Option.bind_some, g2, j_max, Option.bind_some, jmax_nI (hle _) (hle _), eC_max (by omega), Option.bind_some]
            refine tt_some ⟨rfl, ?_⟩
            show _ = nI (eC 1000000 (csc (chv q) d (f / 2) (f % 2)))
            unfold csc
            rw [if_pos c0]
            show _ = nI (eC 1000000 (max _ (csk (chv q) (d + 2) (f / 2) 1)))
            rw [show csk (chv q) (d + 2) (f / 2) 1 = min (ctr (chv q) (d + 1) 0 1) (ctr (chv q) (d + 2 - 3) 1 1) from if_pos k0]
          · rw [if_neg (show ¬ nI (f / 2) = 0 from fun q => k0 ((nI_z (by omega)).mp q)), Option.bind_some, g2, j_max, Option.bind_some, jmax_nI (hle _) (hle _), eC_max (by omega), Option.bind_some]
            refine tt_some ⟨rfl, ?_⟩
            show _ = nI (eC 1000000 (csc (chv q) d (f / 2) (f % 2)))
            unfold csc
            rw [if_pos c0]
            show _ = nI (eC 1000000 (max _ (csk (chv q) (d + 2) (f / 2) 1)))
            rw [show csk (chv q) (d + 2) (f / 2) 1 = ctr (chv q) (d + 1) 0 1 from if_neg k0]
        · rw [if_neg (show ¬ nI (f % 2) = 0 from fun q => c0 ((nI_z (by omega)).mp q)), Option.bind_some]
          refine tt_some ⟨rfl, ?_⟩
          show x = nI (eC 1000000 (csc (chv q) d (f / 2) (f % 2)))
          unfold csc
          rw [if_neg c0]
          exact g2
    · rintro ⟨x, z⟩ ⟨g1, g2⟩
      dsimp only at g1 g2 ⊢
      subst g1
      rw [if_pos (by decide)]
      exact tt_some g2
  obtain ⟨v, h1, rfl⟩ := key
  exact h1
theorem m_chase (x w : Int32) : Tt (f_Mo_chase i x w) (MO i (spChase x w)) := by
  unfold f_Mo_chase spChase
  refine tt_bnd ?_
  rw [mo_win, Option.bind_some]
  by_cases hx : win x 0 20 = true
  · rw [if_pos hx, if_pos hx, if_neg (show ¬ (1 : Int32) = 0 by decide), mo_win, Option.bind_some]
    by_cases hww : win w 0 12 = true
    · rw [if_pos hww, if_pos hww, if_neg (show ¬ (1 : Int32) = 0 by decide), Option.bind_some, thr0, Option.bind_some]
      obtain ⟨d, hd, rfl⟩ := win_of (n := 20) (by decide) hx
      obtain ⟨n, hn, rfl⟩ := win_of (n := 12) (by decide) hww
      dsimp only
      rw [if_pos (show (0 : Int32) = 0 from rfl)]
      refine tt_bind (P1 := fun i' => (∀ z, z < 140 * (n + 1) → i' 1656 z = cT z) ∧ ∀ b j, b ≠ 1656 → i' b j = wr i 1638 0 0 b j)
        (tt_loop (fun q (s : Int32 × MI) => s.1 = nI q ∧ (∀ z, z < 140 * q → s.2 1656 z = cT z) ∧ ∀ b j, b ≠ 1656 → s.2 b j = wr i 1638 0 0 b j) (n + 1) (by omega) ?_ ?_ ⟨rfl, fun z hz => by omega, fun _ _ _ => rfl⟩) ?_
      · rintro q hq ⟨z, i2⟩ ⟨e1, e2, e3⟩
        dsimp only at e1 e2 e3 ⊢
        subst e1
        rw [if_neg (nI_nlt (by omega) (by omega))]
        refine tt_bind (P1 := fun i' => (∀ z, z < 140 * (q + 1) → i' 1656 z = cT z) ∧ ∀ b j, b ≠ 1656 → i' b j = wr i 1638 0 0 b j)
          (tt_loop (fun f (s : Int32 × MI) => s.1 = nI f ∧ (∀ z, z < (4 * q + f) * 35 → s.2 1656 z = cT z) ∧ ∀ b j, b ≠ 1656 → s.2 b j = wr i 1638 0 0 b j) 4 (by omega) ?_ ?_ ⟨rfl, fun z hz => e2 z (by omega), e3⟩) ?_
        · rintro f hf ⟨z, i3⟩ ⟨g1, g2, g3⟩
          dsimp only at g1 g2 g3 ⊢
          subst g1
          rw [lit_nI 4, if_pos (nI_lt hf (by omega))]
          refine tt_bind (P1 := fun i' => (∀ z, z < (4 * q + (f + 1)) * 35 → i' 1656 z = cT z) ∧ ∀ b j, b ≠ 1656 → i' b j = wr i 1638 0 0 b j)
            (tt_loop (fun k (s : Int32 × MI) => s.1 = nI k ∧ (∀ z, z < (4 * q + f) * 35 + k → s.2 1656 z = cT z) ∧ ∀ b j, b ≠ 1656 → s.2 b j = wr i 1638 0 0 b j) 35 (by omega) ?_ ?_ ⟨rfl, fun z hz => g2 z (by omega), g3⟩) ?_
          · rintro k hk ⟨z, i4⟩ ⟨k1, k2, k3⟩
            dsimp only at k1 k2 k3 ⊢
            subst k1
            rw [lit_nI 35, if_pos (nI_lt hk (by omega)), mo_at, Option.bind_some]
            refine tt_bind (P1 := fun v => v = cT ((4 * q + f) * 35 + k)) ?_ ?_
            · by_cases h0 : k = 0
              · rw [if_pos (show nI k = 0 by rw [h0]; rfl)]
                refine tt_some ?_
                unfold cT
                rw [if_pos (by omega)]
              · rw [if_neg (show ¬ nI k = 0 from fun q => h0 ((nI_z (by omega)).mp q))]
                rw [cT_at hk (by omega) hf]
                cases q with
                | zero =>
                  rw [if_pos (show nI 0 = 0 from rfl)]
                  exact tt_some rfl
                | succ p =>
                  rw [if_neg (show ¬ nI (p + 1) = 0 from fun q => by have := (nI_z (by omega)).mp q; omega), m_chasedBy hk (by omega) hf (fun z hz => k2 z (by omega))]
                  exact tt_some rfl
            · rintro v rfl
              rw [grd_nI (by omega) (by omega), ix_nI (by omega)]
              refine tt_bnd (tt_some ⟨nI_1 k, fun z hz => ?_, fun b j hb => ?_⟩)
              · show wr i4 1656 ((4 * q + f) * 35 + k) _ 1656 z = _
                by_cases e : z = (4 * q + f) * 35 + k
                · subst e; rw [wr_s]
                · rw [wr_k e]; exact k2 z (by omega)
              · show wr i4 1656 ((4 * q + f) * 35 + k) _ b j = _
                rw [wr_a hb]; exact k3 b j hb
          · rintro ⟨z, i4⟩ ⟨k1, k2, k3⟩
            dsimp only at k1 k2 k3 ⊢
            subst k1
            rw [lit_nI 35, if_neg (nI_nlt (Nat.le_refl _) (by omega))]
            exact tt_some ⟨fun z hz => k2 z (by omega), k3⟩
          · rintro i4 ⟨k2, k3⟩
            exact tt_some ⟨nI_1 f, k2, k3⟩
        · rintro ⟨z, i3⟩ ⟨g1, g2, g3⟩
          dsimp only at g1 g2 g3 ⊢
          subst g1
          rw [lit_nI 4, if_neg (nI_nlt (Nat.le_refl _) (by omega))]
          exact tt_some ⟨fun z hz => g2 z (by omega), g3⟩
        · rintro i3 ⟨g2, g3⟩
          exact tt_some ⟨nI_1 q, g2, g3⟩
      · rintro ⟨z, i2⟩ ⟨e1, e2, e3⟩
        dsimp only at e1 e2 e3 ⊢
        subst e1
        rw [if_pos (nI_lt (by omega) (by omega))]
        exact tt_some ⟨e2, e3⟩
      · rintro i2 ⟨e2, e3⟩
        have hfq : fq (wr i 1638 0 0) i2 := ⟨fun b j hb => e3 b j (by omega), fun j _ => e3 1638 j (by decide)⟩
        have h00 : i2 1638 0 = 0 := (e3 1638 0 (by decide)).trans wr_s
        rw [show (0 : Int32) = nI 0 from rfl, mo_at, Option.bind_some, grd_nI (by omega) (by omega), ix_nI (by omega), e2 _ (by omega), ix_nI (by omega), ix_nI (by omega)]
        by_cases h0 : d = 0
        · subst h0
          rw [if_neg (show ¬ nI n < cT ((4 * n + 0) * 35 + 0) by unfold cT; rw [if_pos (by omega)]; exact nI_nlt (Nat.zero_le _) (by omega))]
          refine tt_some (mo_ok hfq h00 ?_)
          unfold cT
          rw [if_pos (by omega), if_pos rfl]
          rfl
        · rw [cT_at (by omega) (by omega) (by decide), if_neg (show ¬ nI d = nI 0 from fun q => h0 ((nI_z (by omega)).mp q))]
          have hb := chv_B n d 0 0
          show Tt (if nI n < nI (eC 1000000 (chv n d 0 0)) then _ else _) _
          by_cases c : chv n d 0 0 ≤ n
          · have he : eC 1000000 (chv n d 0 0) = chv n d 0 0 := if_pos (by omega)
            rw [he, if_neg (nI_nlt (by omega) (by omega)), if_pos c]
            exact tt_some (mo_ok hfq h00 rfl)
          · have he : eC 1000000 (chv n d 0 0) = 1000000 := if_neg (by omega)
            rw [he, if_pos (nI_lt (by omega) (by omega)), if_neg c]
            exact tt_some (mo_ok hfq h00 rfl)
    · rw [if_neg hww, if_neg hww, if_pos (show (0 : Int32) = 0 from rfl), Option.bind_some, thr1, Option.bind_some]
      dsimp only
      rw [if_neg (by decide)]
      exact tt_some (mo_err (by decide) (fq_t (fq.refl i) 0))
  · rw [if_neg hx, if_neg hx, if_pos (show (0 : Int32) = 0 from rfl), Option.bind_some, thr1, Option.bind_some]
    dsimp only
    rw [if_neg (by decide)]
    exact tt_some (mo_err (by decide) (fq_t (fq.refl i) 0))
end CHASE
