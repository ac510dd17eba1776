/-! ===== a law's text: what is read, and what is laid of it ===== -/
/-- steps: how many, and which -/
abbrev Cd : Type := Nat × (Nat → Int32)
/-- a place where the text is wrong, or the next place and the steps -/
abbrev Rz : Type := Nat ⊕ (Nat × Cd)
def pu1 (c : Cd) (x : Int32) : Cd := (c.1 + 1, up1 c.2 c.1 x)
def chn (b : Nat → Bool) (nx : Nat → Nat) (f : Nat → Cd → Rz) (op : Int32) : Nat → Nat → Cd → Rz
  | 0, s, c => .inr (s, c)
  | m + 1, s, c => if b s = true then (match f (nx s) c with | .inl e => .inl e | .inr p => chn b nx f op m p.1 (pu1 p.2 op)) else .inr (s, c)
def chf (n : Nat) (b : Nat → Bool) (nx : Nat → Nat) (f : Nat → Cd → Rz) (op : Int32) (s : Nat) (c : Cd) : Rz := match f s c with | .inl e => .inl e | .inr p => chn b nx f op n p.1 p.2
def pAt (n : Nat) (T : Nat → Int32) (s : Nat) : Nat := if wd n T 76 s = true then 1 else if wd n T 78 s = true then 2 else if wd n T 80 s = true then 3 else if wd n T 82 s = true then 4 else if wd n T 84 s = true then 5 else if wd n T 86 s = true then 6 else if wd n T 88 s = true then 7 else 0
def rPart (n : Nat) (T : Nat → Int32) (s : Nat) (c : Cd) : Rz := if pAt n T s = 0 then (match nmb n T 0 999 s with | .inl e => .inl e | .inr p => .inr (p.2, pu1 c (nI p.1))) else .inr (nw n T s, pu1 c (-nI (pAt n T s)))
def rSum (n : Nat) (T : Nat → Int32) (s : Nat) (c : Cd) : Rz := chf n (sgn n T 43) (fun s => sp n T (s + 1)) (rPart n T) (-12) s c
def rCmp (n : Nat) (T : Nat → Int32) (s : Nat) (c : Cd) : Rz := match rSum n T s c with
  | .inl e => .inl e
  | .inr p => if sgn n T 60 p.1 = true then (match rSum n T (sp n T (p.1 + 1)) p.2 with | .inl e => .inl e | .inr q => .inr (q.1, pu1 q.2 (-13))) else if sgn n T 62 p.1 = true then (match rSum n T (sp n T (p.1 + 1)) p.2 with | .inl e => .inl e | .inr q => .inr (q.1, pu1 q.2 (-14))) else .inl p.1
def rAtm (n : Nat) (T : Nat → Int32) (o : Option ((Nat → Cd → Rz) × (Nat → Cd → Rz))) (s : Nat) (c : Cd) : Rz :=
  if wd n T 68 s = true then (match o with | none => .inl s | some R => match R.2 (nw n T s) c with | .inl e => .inl e | .inr p => .inr (p.1, pu1 p.2 (-11)))
  else if sgn n T 40 s = true then (match o with | none => .inl s | some R => match R.1 (sp n T (s + 1)) c with | .inl e => .inl e | .inr p => if sgn n T 41 p.1 = true then .inr (sp n T (p.1 + 1), p.2) else .inl p.1)
  else if wd n T 70 s = true then .inr (nw n T s, pu1 c (-8)) else if wd n T 72 s = true then .inr (nw n T s, pu1 c (-9)) else if wd n T 74 s = true then .inr (nw n T s, pu1 c (-10)) else rCmp n T s c
def rAll (n : Nat) (T : Nat → Int32) (a : Nat → Cd → Rz) : Nat → Cd → Rz := chf n (wd n T 66) (nw n T) a (-15)
def rCnd (n : Nat) (T : Nat → Int32) (a : Nat → Cd → Rz) : Nat → Cd → Rz := chf n (wd n T 64) (nw n T) (rAll n T a) (-16)
/-- the readers of a condition and of its smallest parts that may go k deeper -/
def lx (n : Nat) (T : Nat → Int32) : Nat → (Nat → Cd → Rz) × (Nat → Cd → Rz)
  | 0 => (rCnd n T (rAtm n T none), rAtm n T none)
  | k + 1 => (rCnd n T (rAtm n T (some (lx n T k))), rAtm n T (some (lx n T k)))
/-- the steps of c from g0 on leave H values of the sorts ty -/
def tcr (g0 : Nat) (c : Cd) (H : Nat) (ty : Nat → Bool) : Prop := g0 ≤ c.1 ∧ tc (fun q => c.2 (g0 + q)) (c.1 - g0) H ty
theorem tc_congr {c c' : Nat → Int32} : ∀ (k H : Nat) (ty : Nat → Bool), (∀ q, q < k → c' q = c q) → tc c k H ty → tc c' k H ty
  | 0, _, _, _, h => h
  | k + 1, H, ty, he, h => by
    obtain ⟨T', ty', h1, h2⟩ := h
    exact ⟨T', ty', tc_congr k T' ty' (fun q hq => he q (by omega)) h1, by rw [he k (by omega)]; exact h2⟩
theorem tcr_psh {g0 H H' : Nat} {c : Cd} {ty ty' : Nat → Bool} {x : Int32} (h : tcr g0 c H ty) (hs : stOK x H ty H' ty') : tcr g0 (pu1 c x) H' ty' := by
  obtain ⟨h1, h2⟩ := h
  refine ⟨Nat.le_succ_of_le h1, ?_⟩
  show tc (fun q => up1 c.2 c.1 x (g0 + q)) (c.1 + 1 - g0) H' ty'
  rw [show c.1 + 1 - g0 = (c.1 - g0) + 1 by omega]
  refine ⟨H, ty, tc_congr _ _ _ (fun q hq => ?_) h2, ?_⟩
  · exact up1_o (by omega)
  · show stOK (up1 c.2 c.1 x (g0 + (c.1 - g0))) H ty H' ty'
    rw [show g0 + (c.1 - g0) = c.1 by omega, up1_s]
    exact hs
/-- the steps c' go on from c -/
def gon (s : Nat) (c : Cd) (q : Nat) (c' : Cd) : Prop := s < q ∧ c'.1 + s ≤ c.1 + q ∧ c.1 ≤ c'.1 ∧ ∀ k, k < c.1 → c'.2 k = c.2 k
def typ (B : Bool) (hb : Nat) (c c' : Cd) : Prop := ∀ g0 H ty, H ≤ hb → tcr g0 c H ty → ∃ ty', tcr g0 c' (H + 1) ty' ∧ (∀ j, j < H → ty' j = ty j) ∧ ty' H = B
def GR (n : Nat) (T : Nat → Int32) (B : Bool) (hb : Nat) (f : Nat → Cd → Rz) : Prop := ∀ s c, tks n T s → match f s c with
  | .inl _ => True
  | .inr p => tks n T p.1 ∧ gon s c p.1 p.2 ∧ typ B hb c p.2
theorem gon.trans {s q u : Nat} {c c' c'' : Cd} (h : gon s c q c') (h2 : gon q c' u c'') : gon s c u c'' :=
  ⟨Nat.lt_trans h.1 h2.1, by have := h.2.1; have := h2.2.1; omega, Nat.le_trans h.2.2.1 h2.2.2.1, fun k hk => (h2.2.2.2 k (Nat.lt_of_lt_of_le hk h.2.2.1)).trans (h.2.2.2 k hk)⟩
theorem gon_pu {s q : Nat} {c : Cd} (h : s < q) (x : Int32) : gon s c q (pu1 c x) := ⟨h, by show c.1 + 1 + s ≤ c.1 + q; omega, Nat.le_succ _, fun k hk => up1_o (by omega)⟩
/-- one more step, for a sign or word that has been passed -/
theorem gon.on {s m q : Nat} {c c' : Cd} (h : s < m) (h2 : gon m c q c') (x : Int32) : gon s c q (pu1 c' x) :=
  ⟨Nat.lt_trans h h2.1, by have := h2.2.1; show c'.1 + 1 + s ≤ c.1 + q; omega, Nat.le_succ_of_le h2.2.2.1, fun k hk => (up1_o (by have := h2.2.2.1; omega)).trans (h2.2.2.2 k hk)⟩
section LAWS
variable {n : Nat} {T : Nat → Int32}
theorem typ_lf {c : Cd} {x : Int32} (h : lf x) {hb : Nat} (hb2 : hb < 32) : typ (isB x) hb c (pu1 c x) := fun g0 H ty hH ht => ⟨up1 ty H (isB x), tcr_psh ht (Or.inl ⟨h, by omega, rfl, fun j hj => up1_o (by omega), up1_s⟩), fun j hj => up1_o (by omega), up1_s⟩
/-- two values are made one -/
theorem typ_bin {c c1 c2 : Cd} {x : Int32} {B1 B : Bool} {hb : Nat} (h1 : typ B1 (hb) c c1) (h2 : typ B1 (hb + 1) c1 c2) (hx : (x = -12 ∧ B1 = false ∧ B = false) ∨ ((x = -13 ∨ x = -14) ∧ B1 = false ∧ B = true) ∨ ((x = -15 ∨ x = -16) ∧ B1 = true ∧ B = true)) : typ B hb c (pu1 c2 x) := fun g0 H ty hH ht => by
  obtain ⟨y1, a1, a2, a3⟩ := h1 g0 H ty hH ht
  obtain ⟨y2, b1, b2, b3⟩ := h2 g0 (H + 1) y1 (by omega) a1
  refine ⟨up1 y2 H B, tcr_psh b1 (Or.inr (Or.inr ⟨by omega, by omega, fun j hj => up1_o (by omega), ?_⟩)), fun j hj => (up1_o (by omega)).trans ((b2 j (by omega)).trans (a2 j hj)), up1_s⟩
  rw [show H + 1 + 1 - 1 = H + 1 by omega, show H + 1 + 1 - 2 = H by omega, up1_s, b3, b2 H (by omega), a3]
  rcases hx with ⟨e1, e2, e3⟩ | ⟨e1, e2, e3⟩ | ⟨e1, e2, e3⟩
  · exact Or.inl ⟨e1, e2, e2, e3⟩
  · exact Or.inr (Or.inl ⟨e1, e2, e2, e3⟩)
  · exact Or.inr (Or.inr ⟨e1, e2, e2, e3⟩)
theorem typ_not {c c1 : Cd} {hb : Nat} (h1 : typ true hb c c1) : typ true hb c (pu1 c1 (-11)) := fun g0 H ty hH ht => by
  obtain ⟨y1, a1, a2, a3⟩ := h1 g0 H ty hH ht
  exact ⟨y1, tcr_psh a1 (Or.inr (Or.inl ⟨rfl, by omega, a3, rfl, fun j hj => rfl⟩)), a2, a3⟩
theorem wd_lt {w s : Nat} (hs : s ≤ n) (hw : 0 < wln w) (h : wd n T w s = true) : s < nw n T s := by
  have := wd_le h
  have := (sp_b (n := n) (T := T) (le_b (T := T) hs).2.1).1
  unfold nw
  omega
theorem sgn_lt {s : Nat} {x : Int32} (h : sgn n T x s = true) : s < sp n T (s + 1) ∧ tks n T (sp n T (s + 1)) := by
  have h1 : s < n := by unfold sgn at h; simp only [Bool.and_eq_true, decide_eq_true_eq] at h; exact h.1
  exact ⟨(sp_b (n := n) (T := T) (p := s + 1) (by omega)).1, tks_sp (by omega)⟩
end LAWS
