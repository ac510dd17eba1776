/-! ===== a law's text: how far it goes, and what its steps leave ===== -/
section LAWT
variable {n : Nat} {T : Nat → Int32}
theorem typ_le {B : Bool} {hb hb' : Nat} {c c' : Cd} (h : typ B hb c c') (hl : hb' ≤ hb) : typ B hb' c c' := fun g0 H ty hH ht => h g0 H ty (Nat.le_trans hH hl) ht
theorem GR_le {B : Bool} {hb hb' : Nat} {f : Nat → Cd → Rz} (h : GR n T B hb f) (hl : hb' ≤ hb) : GR n T B hb' f := fun s c hs => by
  have h1 := h s c hs
  revert h1
  cases f s c with
  | inl e => exact fun _ => trivial
  | inr p => exact fun h1 => ⟨h1.1, h1.2.1, typ_le h1.2.2 hl⟩
/-- what a reader gives, when it is known -/
theorem GR_at {B : Bool} {hb : Nat} {f : Nat → Cd → Rz} (h : GR n T B hb f) {s : Nat} {c : Cd} (hs : tks n T s) {p : Nat × Cd} (e : f s c = .inr p) : tks n T p.1 ∧ gon s c p.1 p.2 ∧ typ B hb c p.2 := by
  have h1 := h s c hs
  rw [e] at h1
  exact h1
theorem isB_nI {v : Nat} (h : v ≤ 999) : isB (nI v) = false := by
  unfold isB
  have e : (nI v).toInt = v := nI_toInt (by omega)
  refine decide_eq_false (fun q => ?_)
  rcases q with q | q | q <;> (have := congrArg Int32.toInt q; rw [e] at this; revert this; simp)
theorem isB_neg : ∀ z, z < 8 → isB (-nI z) = false := by decide +kernel
theorem pAt_le (s : Nat) : pAt n T s ≤ 7 ∧ (pAt n T s ≠ 0 → wd n T (2 * (36 + pAt n T s) + 2) s = true) := by
  unfold pAt
  by_cases h1 : wd n T 76 s = true
  · rw [if_pos h1]; exact ⟨by omega, fun _ => h1⟩
  rw [if_neg h1]
  by_cases h2 : wd n T 78 s = true
  · rw [if_pos h2]; exact ⟨by omega, fun _ => h2⟩
  rw [if_neg h2]
  by_cases h3 : wd n T 80 s = true
  · rw [if_pos h3]; exact ⟨by omega, fun _ => h3⟩
  rw [if_neg h3]
  by_cases h4 : wd n T 82 s = true
  · rw [if_pos h4]; exact ⟨by omega, fun _ => h4⟩
  rw [if_neg h4]
  by_cases h5 : wd n T 84 s = true
  · rw [if_pos h5]; exact ⟨by omega, fun _ => h5⟩
  rw [if_neg h5]
  by_cases h6 : wd n T 86 s = true
  · rw [if_pos h6]; exact ⟨by omega, fun _ => h6⟩
  rw [if_neg h6]
  by_cases h7 : wd n T 88 s = true
  · rw [if_pos h7]; exact ⟨by omega, fun _ => h7⟩
  rw [if_neg h7]
  exact ⟨by omega, fun q => absurd rfl q⟩
theorem nmb_gt {lo hi s v q : Nat} (hs : s ≤ n) (h : nmb n T lo hi s = .inr (v, q)) : s < q ∧ tks n T q ∧ lo ≤ v ∧ v ≤ hi := by
  by_cases hc : de n T s = s ∨ 3 < de n T s - s ∨ vl T s (de n T s - s) < lo ∨ hi < vl T s (de n T s - s)
  · rw [nmb_inl hc] at h; cases h
  · rw [nmb_inr hc] at h
    obtain ⟨rfl, rfl⟩ := Prod.mk.inj (Sum.inr.inj h)
    have h1 := de_b (n := n) (T := T) hs
    have h2 := sp_b (n := n) (T := T) h1.2.1
    exact ⟨by omega, tks_sp h1.2.1, by omega, by omega⟩
theorem GR_part {hb : Nat} (hh : hb < 32) : GR n T false hb (rPart n T) := fun s c hs => by
  unfold rPart
  by_cases h0 : pAt n T s = 0
  · rw [if_pos h0]
    cases hm : nmb n T 0 999 s with
    | inl e => exact trivial
    | inr p =>
      obtain ⟨a1, a2, a3, a4⟩ := nmb_gt hs.1 hm
      refine ⟨a2, gon_pu a1 _, ?_⟩
      have := typ_lf (c := c) (x := nI p.1) (Or.inl ⟨p.1, a4, rfl⟩) hh
      rw [isB_nI a4] at this
      exact this
  · rw [if_neg h0]
    obtain ⟨b1, b2⟩ := pAt_le (n := n) (T := T) s
    refine ⟨tks_nw hs.1, gon_pu (wd_lt hs.1 (wln_lt _ (by omega)).1 (b2 h0)) _, ?_⟩
    have := typ_lf (c := c) (x := -nI (pAt n T s)) (Or.inr ⟨pAt n T s, by omega, by omega, rfl⟩) hh
    rw [isB_neg _ (by omega)] at this
    exact this
theorem GR_chn {b : Nat → Bool} {nx : Nat → Nat} {f : Nat → Cd → Rz} {op : Int32} {B : Bool} {hb : Nat} (hnx : ∀ s, tks n T s → b s = true → s < nx s ∧ tks n T (nx s)) (hf : GR n T B (hb + 1) f) (hop : (op = -12 ∧ B = false) ∨ ((op = -15 ∨ op = -16) ∧ B = true)) {s0 : Nat} {c0 : Cd} : ∀ m s c, tks n T s → gon s0 c0 s c → typ B hb c0 c → match chn b nx f op m s c with
    | .inl _ => True
    | .inr p => tks n T p.1 ∧ gon s0 c0 p.1 p.2 ∧ typ B hb c0 p.2
  | 0, s, c, hs, hg, ht => ⟨hs, hg, ht⟩
  | m + 1, s, c, hs, hg, ht => by
    unfold chn
    by_cases h : b s = true
    · rw [if_pos h]
      obtain ⟨a1, a2⟩ := hnx s hs h
      have h1 := hf (nx s) c a2
      revert h1
      cases f (nx s) c with
      | inl e => exact fun _ => trivial
      | inr p =>
        rintro ⟨b1, b2, b3⟩
        exact GR_chn hnx hf hop m p.1 _ b1 (hg.trans (b2.on a1 op)) (typ_bin ht b3 (by
          rcases hop with ⟨e1, e2⟩ | ⟨e1, e2⟩
          · exact Or.inl ⟨e1, e2, e2⟩
          · exact Or.inr (Or.inr ⟨e1, e2, e2⟩)))
    · rw [if_neg h]; exact ⟨hs, hg, ht⟩
theorem GR_chf {b : Nat → Bool} {nx : Nat → Nat} {f : Nat → Cd → Rz} {op : Int32} {B : Bool} {hb : Nat} (hnx : ∀ s, tks n T s → b s = true → s < nx s ∧ tks n T (nx s)) (hf : GR n T B (hb + 1) f) (hop : (op = -12 ∧ B = false) ∨ ((op = -15 ∨ op = -16) ∧ B = true)) : GR n T B hb (chf n b nx f op) := fun s c hs => by
  unfold chf
  have h1 := hf s c hs
  revert h1
  cases f s c with
  | inl e => exact fun _ => trivial
  | inr p => exact fun h1 => GR_chn hnx hf hop n p.1 p.2 h1.1 h1.2.1 (typ_le h1.2.2 (by omega))
theorem GR_sum {hb : Nat} (hh : hb < 31) : GR n T false hb (rSum n T) := GR_chf (fun s hs h => sgn_lt h) (GR_part (by omega)) (Or.inl ⟨rfl, rfl⟩)
theorem GR_cmp {hb : Nat} (hh : hb < 30) : GR n T true hb (rCmp n T) := fun s c hs => by
  unfold rCmp
  cases h1 : rSum n T s c with
  | inl e => exact trivial
  | inr p =>
    dsimp only
    obtain ⟨a1, a2, a3⟩ := GR_at (GR_sum (hb := hb) (by omega)) hs h1
    by_cases h60 : sgn n T 60 p.1 = true
    · rw [if_pos h60]
      obtain ⟨b1, b2⟩ := sgn_lt h60
      cases h2 : rSum n T (sp n T (p.1 + 1)) p.2 with
      | inl e => exact trivial
      | inr q =>
        obtain ⟨d1, d2, d3⟩ := GR_at (GR_sum (hb := hb + 1) (by omega)) b2 h2
        exact ⟨d1, a2.trans (d2.on b1 _), typ_bin a3 d3 (Or.inr (Or.inl ⟨Or.inl rfl, rfl, rfl⟩))⟩
    · rw [if_neg h60]
      by_cases h62 : sgn n T 62 p.1 = true
      · rw [if_pos h62]
        obtain ⟨b1, b2⟩ := sgn_lt h62
        cases h2 : rSum n T (sp n T (p.1 + 1)) p.2 with
        | inl e => exact trivial
        | inr q =>
          obtain ⟨d1, d2, d3⟩ := GR_at (GR_sum (hb := hb + 1) (by omega)) b2 h2
          exact ⟨d1, a2.trans (d2.on b1 _), typ_bin a3 d3 (Or.inr (Or.inl ⟨Or.inr rfl, rfl, rfl⟩))⟩
      · rw [if_neg h62]; exact trivial
theorem gon.wide {s m q u : Nat} {c c' : Cd} (h1 : s ≤ m) (h : gon m c q c') (h2 : q ≤ u) : gon s c u c' := ⟨Nat.lt_of_le_of_lt h1 (Nat.lt_of_lt_of_le h.1 h2), by have := h.2.1; omega, h.2.2.1, h.2.2.2⟩
theorem GR_tag {w : Nat} {x : Int32} {hb : Nat} (hh : hb < 32) {k s : Nat} {c : Cd} (hk : k < 94) (hs : tks n T s) (h : wd n T (2 * k + 2) s = true) (hx : lf x) (hB : isB x = true) : tks n T (nw n T s) ∧ gon s c (nw n T s) (pu1 c x) ∧ typ true hb c (pu1 c x) := by
  refine ⟨tks_nw hs.1, gon_pu (wd_lt hs.1 (wln_lt _ hk).1 h) _, ?_⟩
  have := typ_lf (c := c) hx hh
  rw [hB] at this
  exact this
theorem GR_atm {o : Option ((Nat → Cd → Rz) × (Nat → Cd → Rz))} {hb : Nat} (hh : hb < 30) (ho : ∀ R, o = some R → GR n T true hb R.1 ∧ GR n T true hb R.2) : GR n T true hb (rAtm n T o) := fun s c hs => by
  unfold rAtm
  by_cases h68 : wd n T 68 s = true
  · rw [if_pos h68]
    cases o with
    | none => exact trivial
    | some R =>
      dsimp only
      have hl := wd_lt hs.1 (wln_lt 33 (by decide)).1 h68
      cases h1 : R.2 (nw n T s) c with
      | inl e => exact trivial
      | inr p =>
        obtain ⟨a1, a2, a3⟩ := GR_at (ho R rfl).2 (tks_nw hs.1) h1
        exact ⟨a1, a2.on hl _, typ_not a3⟩
  rw [if_neg h68]
  by_cases h40 : sgn n T 40 s = true
  · rw [if_pos h40]
    cases o with
    | none => exact trivial
    | some R =>
      dsimp only
      obtain ⟨b1, b2⟩ := sgn_lt h40
      cases h1 : R.1 (sp n T (s + 1)) c with
      | inl e => exact trivial
      | inr p =>
        obtain ⟨a1, a2, a3⟩ := GR_at (ho R rfl).1 b2 h1
        dsimp only
        by_cases h41 : sgn n T 41 p.1 = true
        · rw [if_pos h41]
          obtain ⟨d1, d2⟩ := sgn_lt h41
          exact ⟨d2, a2.wide (by omega) (by omega), a3⟩
        · rw [if_neg h41]; exact trivial
  rw [if_neg h40]
  by_cases h70 : wd n T 70 s = true
  · rw [if_pos h70]; exact GR_tag (w := 0) (by omega) (k := 34) (by decide) hs h70 (Or.inr ⟨8, by decide, by decide, rfl⟩) rfl
  rw [if_neg h70]
  by_cases h72 : wd n T 72 s = true
  · rw [if_pos h72]; exact GR_tag (w := 0) (by omega) (k := 35) (by decide) hs h72 (Or.inr ⟨9, by decide, by decide, rfl⟩) rfl
  rw [if_neg h72]
  by_cases h74 : wd n T 74 s = true
  · rw [if_pos h74]; exact GR_tag (w := 0) (by omega) (k := 36) (by decide) hs h74 (Or.inr ⟨10, by decide, by decide, rfl⟩) rfl
  rw [if_neg h74]
  exact GR_cmp hh s c hs
theorem nx_wd {k : Nat} (hk : k < 94) : ∀ s, tks n T s → wd n T (2 * k + 2) s = true → s < nw n T s ∧ tks n T (nw n T s) := fun s hs h => ⟨wd_lt hs.1 (wln_lt _ hk).1 h, tks_nw hs.1⟩
theorem GR_all {a : Nat → Cd → Rz} {hb : Nat} (h : GR n T true (hb + 1) a) : GR n T true hb (rAll n T a) := GR_chf (nx_wd (k := 32) (by decide)) h (Or.inr ⟨Or.inl rfl, rfl⟩)
theorem GR_cnd {a : Nat → Cd → Rz} {hb : Nat} (h : GR n T true (hb + 2) a) : GR n T true hb (rCnd n T a) := GR_chf (nx_wd (k := 31) (by decide)) (GR_all h) (Or.inr ⟨Or.inr rfl, rfl⟩)
theorem GR_lx : ∀ k, k ≤ 6 → GR n T true (27 - 2 * k) (lx n T k).1 ∧ GR n T true (29 - 2 * k) (lx n T k).2
  | 0, _ => by
    have ha : GR n T true 29 (rAtm n T none) := GR_atm (by decide) (fun R q => by cases q)
    exact ⟨GR_cnd ha, ha⟩
  | k + 1, hk => by
    obtain ⟨h1, h2⟩ := GR_lx k (by omega)
    have ha : GR n T true (29 - 2 * (k + 1)) (rAtm n T (some (lx n T k))) := GR_atm (by omega) (fun R q => by
      cases q
      exact ⟨GR_le h1 (by omega), GR_le h2 (by omega)⟩)
    exact ⟨GR_cnd (GR_le ha (by omega)), ha⟩
end LAWT
