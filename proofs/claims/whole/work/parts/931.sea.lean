/-! ===== the lines of the waters ===== -/
def bd {α β : Type} (x : Nat ⊕ (α × Nat)) (f : α → Nat → Nat ⊕ β) : Nat ⊕ β := match x with
  | .inl e => .inl e
  | .inr p => f p.1 p.2
theorem bd_r {α β : Type} {a : α} {q : Nat} {f : α → Nat → Nat ⊕ β} : bd (.inr (a, q)) f = f a q := rfl
theorem bd_l {α β : Type} {e : Nat} {f : α → Nat → Nat ⊕ β} : bd (.inl e) f = .inl e := rfl
section SEAL
variable (n : Nat) (T : Nat → Int32)
def kd (s : Nat) : Nat := ffs (fun j => wd n T (18 + 2 * j) s) 4 0
def wy (s : Nat) : Nat := ffs (fun j => wd n T (6 + 2 * j) s) 5 0
def kdr (s : Nat) : Nat ⊕ (Nat × Nat) := if kd n T s < 4 then .inr (kd n T s, nw n T s) else .inl s
def wyr (s : Nat) : Nat ⊕ (Nat × Nat) := if wy n T s < 5 then .inr (wy n T s, nw n T s) else .inl s
def nwd (w s : Nat) : Nat ⊕ (Unit × Nat) := if wd n T w s = true then .inr ((), nw n T s) else .inl s
def tno (w hi : Nat) (dv : Int32) (s : Nat) : Nat ⊕ (Int32 × Nat) := if wd n T w s = true then bd (nmb n T 0 hi (nw n T s)) (fun v q => .inr (nI v, q)) else .inr (dv, s)
def rFish (S : SS) (s : Nat) : Nat ⊕ (SS × Nat) := bd (kdr n T s) fun k s1 => bd (nwd n T 26 s1) fun _ s2 => bd (nmb n T 0 24 s2) fun c s3 => bd (nwd n T 28 s3) fun _ s4 => bd (nmb n T 1 9 s4) fun z s5 => bd (tno n T 30 99 90 s5) fun f s6 => .inr (sfi S (nI k) (nI z) (nI c) f, s6)
def rBoat (S : SS) (s : Nat) : Nat ⊕ (SS × Nat) := bd (nwd n T 34 s) fun _ s1 => bd (nmb n T 1 9 s1) fun z s2 => bd (tno n T 26 24 0 s2) fun c s3 => bd (tno n T 36 24 (-1) s3) fun h s4 => .inr (sbo S c h (nI z), s4)
def rBuyer (S : SS) (s : Nat) : Nat ⊕ (SS × Nat) := bd (kdr n T s) fun k s1 => bd (nwd n T 40 s1) fun _ s2 => bd (nmb n T 0 999 s2) fun m s3 => bd (tno n T 42 99 0 s3) fun l s4 => bd (tno n T 44 100 50 s4) fun e s5 => .inr (syo S (nI k) (nI m) l e, s5)
def dkl : Nat → Nat → Nat → Nat × Nat
  | 0, m, s => (m, s)
  | k + 1, m, s => if kd n T s < 4 ∧ m.testBit (kd n T s) = false then dkl k (setb m (kd n T s)) (nw n T s) else (m, s)
def rDead (S : SS) (s : Nat) : Nat ⊕ (SS × Nat) := bd (kdr n T s) fun k s1 => bd (nwd n T 48 (dkl n T 3 (2 ^ k) s1).2) fun _ s3 => bd (nmb n T 0 99 s3) fun b s4 => .inr (sdo S (nI (dkl n T 3 (2 ^ k) s1).1) (nI b), s4)
def rCl : Nat → Nat → SS → Nat → Nat ⊕ (SS × Nat)
  | 0, _, S, s => .inr (S, s)
  | k + 1, x, S, s => if s < n ∧ srt (T s) = 1 then (if x = 25 then .inl s else bd (wyr n T s) fun w s1 => rCl k (x + 1) (su S 1 0 x (nI w)) s1) else .inr (S, s)
def rCur (S : SS) (s : Nat) : Nat ⊕ (SS × Nat) := bd (nmb n T 0 24 s) fun c s1 => bd (wyr n T s1) fun w s2 => rCl n T (25 - c) (c + 1) (su S 1 0 c (nI w)) s2
def rLine (S : SS) (s : Nat) : Nat ⊕ (SS × Nat) :=
  if wd n T 4 s = true then rCur n T S (nw n T s)
  else if wd n T 16 s = true then (if nf S < 8 then rFish n T S (nw n T s) else .inl s)
  else if wd n T 32 s = true then (if nb S < 3 then rBoat n T S (nw n T s) else .inl s)
  else if wd n T 38 s = true then (if ny S < 5 then rBuyer n T S (nw n T s) else .inl s)
  else if wd n T 46 s = true then (if nd S < 6 then rDead n T S (nw n T s) else .inl s)
  else if wd n T 50 s = true then bd (nmb n T 0 999 (nw n T s)) fun v q => .inr (su S 0 0 6 (nI v), q)
  else if wd n T 52 s = true then bd (nmb n T 0 999 (nw n T s)) fun v q => .inr (su S 0 0 8 (nI v), q)
  else .inl s
def rLs : Nat → Nat → SS → Nat → Nat ⊕ (SS × Nat)
  | 0, _, S, s => .inr (S, s)
  | k + 1, x, S, s => bd (rLine n T S s) fun S1 s1 => if s1 = n then .inr (S1, s1) else if sgn n T 59 s1 = true then (if x + 1 < 14 then rLs k (x + 1) S1 (sp n T (s1 + 1)) else .inl (sp n T (s1 + 1))) else .inl s1
def rSea (S : SS) : Nat ⊕ (SS × Nat) := if sp n T 0 = n then .inr (S, n) else rLs n T 14 0 S (sp n T 0)
end SEAL
section SEAC
variable {t : MT} {i : MI} {n : Nat} {T : Nat → Int32} {S : SS}
/-- two words that both stand at s are the same -/
theorem wd_inj {k k' s : Nat} (hk : k < 94) (hk' : k' < 94) (h : wd n T (2 * k + 2) s = true) (h' : wd n T (2 * k' + 2) s = true) : wch (2 * k + 2) = wch (2 * k' + 2) := by
  have h1 := wd_le h
  have h2 := wd_le h'
  obtain ⟨-, -, w3⟩ := wln_lt k hk
  obtain ⟨-, -, w3'⟩ := wln_lt k' hk'
  have hl : wln (2 * k + 2) = wln (2 * k' + 2) := by omega
  unfold wd at h h'
  rw [Bool.and_eq_true, decide_eq_true_eq, decide_eq_true_eq] at h h'
  refine List.ext_getElem? (fun j => ?_)
  by_cases hj : j < wln (2 * k + 2)
  · have e1 := h.2 j hj
    have e2 := h'.2 j (by omega)
    have c1 := w3 j hj
    have c2 := w3' j (by omega)
    have e3 : wc (2 * k + 2) j = wc (2 * k' + 2) j := (nI_inj (by omega) (by omega)).mp (e1.symm.trans e2)
    unfold wc at e3
    have g1 : (wch (2 * k + 2))[j]? = some ((wch (2 * k + 2))[j]'hj) := List.getElem?_eq_getElem hj
    have g2 : (wch (2 * k' + 2))[j]? = some ((wch (2 * k' + 2))[j]'(by unfold wln at hl hj; omega)) := List.getElem?_eq_getElem _
    rw [g1, g2] at e3 ⊢
    exact congrArg some e3
  · rw [List.getElem?_eq_none (by unfold wln at hj; omega), List.getElem?_eq_none (by unfold wln at hl hj; omega)]
theorem wd_no {k k' s : Nat} (hk : k < 94) (hk' : k' < 94) (h : wd n T (2 * k + 2) s = true) (hne : wch (2 * k + 2) ≠ wch (2 * k' + 2)) : ¬ wd n T (2 * k' + 2) s = true := fun q => hne (wd_inj hk hk' h q)
theorem wd_eqw {w w' : Nat} (h : wch w = wch w') (s : Nat) : wd n T w s = wd n T w' s := by
  unfold wd wln wc
  rw [h]
def fxs (i i' : MI) : Prop := ∀ b j, (b < 1038 ∨ 1069 ≤ b) → ¬ (b = 1595 ∧ (j = 4 ∨ j = 5 ∨ j = 6)) → i' b j = i b j
def fxe (i i' : MI) : Prop := ∀ b j, (b < 1038 ∨ 1069 ≤ b) → ¬ (b = 1595 ∧ (j = 2 ∨ j = 4 ∨ j = 5 ∨ j = 6)) → i' b j = i b j
theorem ft.fxs {i i' : MI} (h : ft i i') : fxs i i' := fun b j _ hb => h b j hb
theorem fxs.trans {i j k : MI} (h : fxs i j) (h2 : fxs j k) : fxs i k := fun b q h1 hb => (h2 b q h1 hb).trans (h b q h1 hb)
theorem fxs.e {i j k : MI} (h : fxs i j) (h2 : fe j k) : fxe i k := fun b q h1 hb => (h2 b q hb).trans (h b q h1 (by omega))
theorem fxs.w {i j : MI} (h : fxs i j) {b : Nat} (hb : 1038 ≤ b ∧ b < 1069) (k : Nat) (v : Int32) : fxs i (wr j b k v) := fun b' q h1 h2 => by rw [wr_a (by omega)]; exact h b' q h1 h2
theorem TK.wr {s : Nat} (h : TK i n T s) {b : Nat} (hb : b < 1069) (k : Nat) (v : Int32) : TK (wr i b k v) n T s := h.congr (fun b' j hb' => wr_a (by omega))
theorem SV.ft {i' : MI} (h : SV t i) (he : ft i i') : SV t i' := h.congr (fun b j hb => he b j (by omega))
theorem SV.fxs {i' : MI} (h : SV t i) (he : fxs i i') : SV t i' := h.congr (fun b j hb => he b j (by omega) (by omega))
/-- a line's reader of the class -/
def CPl (n : Nat) (T : Nat → Int32) (i : MI) (x : Nat ⊕ (SS × Nat)) (y : (Unit ⊕ Nat) × MI) : Prop := match x with
  | .inl e => y.1 = .inr 20 ∧ y.2 1595 2 = nI e ∧ fxe i y.2
  | .inr (S', q) => y.1 = .inl () ∧ Wf S' ∧ CV y.2 1038 S' ∧ TK y.2 n T q ∧ tks n T q ∧ fxs i y.2
theorem v_kndw (hS : SV t i) (hn : n ≤ 400) {s : Nat} (hs : tks n T s) (h : TK i n T s) : Tt (f_Sx_needKindWord t i) (fun y => (∃ k q, kdr n T s = .inr (k, q) ∧ k < 4 ∧ tks n T q ∧ y.1 = .inl (nI k) ∧ TK y.2 n T q ∧ ft i y.2) ∨ (kdr n T s = .inl s ∧ y.1 = .inr 20 ∧ y.2 1595 2 = nI s ∧ fe i y.2)) := by
  unfold f_Sx_needKindWord
  refine tt_loop (fun j (x : Int32 × MI) => x.1 = nI j ∧ (∀ j', j' < j → wd n T (18 + 2 * j') s = false) ∧ TK x.2 n T s ∧ ft i x.2) 4 (by omega) ?_ ?_ ⟨rfl, fun j' hj' => by omega, h, ft.refl i⟩
  · rintro j hj ⟨z, i2⟩ ⟨e1, e2, e3, e4⟩
    dsimp only at e1 e2 e3 e4 ⊢
    subst e1
    have hw : f_Sx_kindWord (nI j) = some (2 * (8 + j) + 2) := by
      rcases (by omega : j = 0 ∨ j = 1 ∨ j = 2 ∨ j = 3) with rfl | rfl | rfl | rfl <;> rfl
    rw [lit_nI 4, if_pos (nI_lt hj (by omega)), hw, Option.bind_some]
    refine tt_bind (v_takeWord (hS.ft e4) hn (by omega) hs.1 e3) ?_
    rintro ⟨v, i3⟩ ⟨u1, u2, u3⟩
    dsimp only at u1 u2 u3 ⊢
    subst u1
    by_cases c : wd n T (2 * (8 + j) + 2) s = true
    · rw [if_pos c] at u2
      rw [if_pos c, if_neg (show ¬ (1 : Int32) = 0 by decide)]
      have hk : kd n T s = j := ffs_eq 4 0 j (fun f _ hf => e2 f hf) (Nat.zero_le _) (by omega) (fun _ => by show wd n T (18 + 2 * j) s = true; rw [show 18 + 2 * j = 2 * (8 + j) + 2 by omega]; exact c)
      refine tt_some (Or.inl ⟨j, nw n T s, ?_, hj, tks_nw hs.1, rfl, u2, e4.trans u3⟩)
      unfold kdr
      rw [hk, if_pos hj]
    · rw [if_neg c] at u2
      rw [if_neg c, if_pos (show (0 : Int32) = 0 from rfl)]
      refine tt_some ⟨nI_1 j, fun j' hj' => ?_, u2, e4.trans u3⟩
      by_cases e : j' = j
      · subst e; rw [show 18 + 2 * j' = 2 * (8 + j') + 2 by omega]; exact Bool.eq_false_iff.mpr c
      · exact e2 j' (by omega)
  · rintro ⟨z, i2⟩ ⟨e1, e2, e3, e4⟩
    dsimp only at e1 e2 e3 e4 ⊢
    subst e1
    rw [lit_nI 4, if_neg (nI_nlt (Nat.le_refl _) (by omega)), v_refuse e3, Option.bind_some]
    have hk : kd n T s = 4 := ffs_eq 4 0 4 (fun f _ hf => e2 f hf) (by omega) (by omega) (fun q => by omega)
    refine tt_some (Or.inr ⟨?_, rfl, (show wr i2 1595 2 (nI s) 1595 2 = _ from wr_s), e4.fe.trans fe_ref⟩)
    unfold kdr
    rw [hk, if_neg (by omega)]
theorem v_way (hS : SV t i) (hn : n ≤ 400) {s : Nat} (hs : tks n T s) (h : TK i n T s) : Tt (f_Sx_needWay t i) (fun y => (∃ k q, wyr n T s = .inr (k, q) ∧ k < 5 ∧ tks n T q ∧ y.1 = .inl (nI k) ∧ TK y.2 n T q ∧ ft i y.2) ∨ (wyr n T s = .inl s ∧ y.1 = .inr 20 ∧ y.2 1595 2 = nI s ∧ fe i y.2)) := by
  unfold f_Sx_needWay
  refine tt_loop (fun j (x : Int32 × MI) => x.1 = nI j ∧ (∀ j', j' < j → wd n T (6 + 2 * j') s = false) ∧ TK x.2 n T s ∧ ft i x.2) 5 (by omega) ?_ ?_ ⟨rfl, fun j' hj' => by omega, h, ft.refl i⟩
  · rintro j hj ⟨z, i2⟩ ⟨e1, e2, e3, e4⟩
    dsimp only at e1 e2 e3 e4 ⊢
    subst e1
    have hw : f_Sx_wayWord (nI j) = some (2 * (2 + j) + 2) := by
      rcases (by omega : j = 0 ∨ j = 1 ∨ j = 2 ∨ j = 3 ∨ j = 4) with rfl | rfl | rfl | rfl | rfl <;> rfl
    rw [lit_nI 4, if_neg (nI_nlt (by omega) (by omega)), hw, Option.bind_some]
    refine tt_bind (v_takeWord (hS.ft e4) hn (by omega) hs.1 e3) ?_
    rintro ⟨v, i3⟩ ⟨u1, u2, u3⟩
    dsimp only at u1 u2 u3 ⊢
    subst u1
    by_cases c : wd n T (2 * (2 + j) + 2) s = true
    · rw [if_pos c] at u2
      rw [if_pos c, if_neg (show ¬ (1 : Int32) = 0 by decide)]
      have hk : wy n T s = j := ffs_eq 5 0 j (fun f _ hf => e2 f hf) (Nat.zero_le _) (by omega) (fun _ => by show wd n T (6 + 2 * j) s = true; rw [show 6 + 2 * j = 2 * (2 + j) + 2 by omega]; exact c)
      refine tt_some (Or.inl ⟨j, nw n T s, ?_, hj, tks_nw hs.1, rfl, u2, e4.trans u3⟩)
      unfold wyr
      rw [hk, if_pos hj]
    · rw [if_neg c] at u2
      rw [if_neg c, if_pos (show (0 : Int32) = 0 from rfl)]
      refine tt_some ⟨nI_1 j, fun j' hj' => ?_, u2, e4.trans u3⟩
      by_cases e : j' = j
      · subst e; rw [show 6 + 2 * j' = 2 * (2 + j') + 2 by omega]; exact Bool.eq_false_iff.mpr c
      · exact e2 j' (by omega)
  · rintro ⟨z, i2⟩ ⟨e1, e2, e3, e4⟩
    dsimp only at e1 e2 e3 e4 ⊢
    subst e1
    rw [lit_nI 4, if_pos (nI_lt (by decide) (by decide)), v_refuse e3, Option.bind_some]
    have hk : wy n T s = 5 := ffs_eq 5 0 5 (fun f _ hf => e2 f hf) (by omega) (by omega) (fun q => by omega)
    refine tt_some (Or.inr ⟨?_, rfl, (show wr i2 1595 2 (nI s) 1595 2 = _ from wr_s), e4.fe.trans fe_ref⟩)
    unfold wyr
    rw [hk, if_neg (by omega)]
theorem v_need (hS : SV t i) (hn : n ≤ 400) {k s : Nat} (hk : k < 94) (hs : tks n T s) (h : TK i n T s) : Tt (f_Ta_needWord t i (2 * k + 2)) (fun y => (nwd n T (2 * k + 2) s = .inr ((), nw n T s) ∧ tks n T (nw n T s) ∧ y.1 = .inl () ∧ TK y.2 n T (nw n T s) ∧ ft i y.2) ∨ (nwd n T (2 * k + 2) s = .inl s ∧ y.1 = .inr 20 ∧ y.2 1595 2 = nI s ∧ fe i y.2)) := by
  refine tt_mono (v_needWord hS hn hk hs.1 h) ?_
  rintro y (⟨c, e1, e2, e3⟩ | ⟨c, e1, e2, e3⟩)
  · exact Or.inl ⟨if_pos c, tks_nw hs.1, e1, e2, e3⟩
  · exact Or.inr ⟨if_neg c, e1, e2, e3⟩
theorem v_tno (hS : SV t i) (hn : n ≤ 400) {k s hi : Nat} (hk : k < 94) (hhi : hi < 2 ^ 31) (hs : tks n T s) (h : TK i n T s) (dv : Int32) : Tt (f_Sx_takeNumberOf t i (2 * k + 2) (nI 0) (nI hi) dv) (fun y => (∃ v q, tno n T (2 * k + 2) hi dv s = .inr (v, q) ∧ (v = dv ∨ ∃ m, m ≤ hi ∧ v = nI m) ∧ tks n T q ∧ y.1 = .inl v ∧ TK y.2 n T q ∧ ft i y.2) ∨ (∃ e, tno n T (2 * k + 2) hi dv s = .inl e ∧ y.1 = .inr 20 ∧ y.2 1595 2 = nI e ∧ fe i y.2)) := by
  unfold f_Sx_takeNumberOf tno
  refine tt_bind (v_takeWord hS hn hk hs.1 h) ?_
  rintro ⟨v, i2⟩ ⟨e1, e2, e3⟩
  dsimp only at e1 e2 e3 ⊢
  subst e1
  by_cases c : wd n T (2 * k + 2) s = true
  · rw [if_pos c] at e2
    rw [if_pos c, if_neg (show ¬ (1 : Int32) = 0 by decide), if_pos c]
    refine tt_bind (v_number hn (lo := 0) (by decide) hhi (tks_nw hs.1).1 e2) ?_
    rintro ⟨v, i3⟩ hx
    dsimp only at hx ⊢
    rcases hx with ⟨v', q, u1, u2, u3, u4, rfl, u5, u6⟩ | ⟨u1, rfl, u2, u3⟩
    · rw [u1, bd_r]
      exact tt_some (Or.inl ⟨nI v', q, rfl, Or.inr ⟨v', u4, rfl⟩, u2, rfl, u5, e3.trans u6⟩)
    · rw [u1, bd_l]
      exact tt_some (Or.inr ⟨_, rfl, rfl, u2, e3.fe.trans u3⟩)
  · rw [if_neg c] at e2
    rw [if_neg c, if_pos (show (0 : Int32) = 0 from rfl), if_neg c]
    exact tt_some (Or.inl ⟨dv, s, rfl, Or.inl rfl, hs, rfl, e2, e3⟩)
theorem v_rFish (hS : SV t i) (hn : n ≤ 400) {s : Nat} (hs : tks n T s) (h : TK i n T s) (hw : Wf S) (hv : CV i 1038 S) (h8 : nf S < 8) (hwd : wd n T 16 s = true) : Tt (f_Sx_readFish t i 1038) (CPl n T i (rFish n T S (nw n T s))) := by
  have hed : ed n T s = le n T s := wd_ed (k := 7) (by decide) hs.1 hwd
  unfold f_Sx_readFish rFish
  refine tt_bind (v_step hn hs.1 h) ?_
  rintro i1 ⟨a1, a2⟩
  rw [hed] at a1
  refine tt_bind (v_kndw (hS.ft a2) hn (tks_nw hs.1) a1) ?_
  rintro ⟨v, i3⟩ hx
  dsimp only at hx ⊢
  rcases hx.symm with ⟨ek, rfl, b1, b2⟩ | ⟨k, q1, ek, k4, tq1, rfl, b1, b2⟩
  · rw [ek, bd_l]; exact tt_some ⟨rfl, b1, a2.fxs.e b2⟩
  rw [ek, bd_r]
  dsimp only
  have f3 := a2.trans b2
  refine tt_bind (v_need (k := 12) (hS.ft f3) hn (by decide) tq1 b1) ?_
  rintro ⟨v, i5⟩ hx
  dsimp only at hx ⊢
  rcases hx.symm with ⟨ek, rfl, c1, c2⟩ | ⟨ek, tq2, rfl, c1, c2⟩
  · rw [show nwd n T 26 q1 = _ from ek, bd_l]; exact tt_some ⟨rfl, c1, f3.fxs.e c2⟩
  rw [show nwd n T 26 q1 = _ from ek, bd_r]
  dsimp only
  have f5 := f3.trans c2
  refine tt_bind (v_number hn (lo := 0) (hi := 24) (by decide) (by decide) tq2.1 c1) ?_
  rintro ⟨v, i8⟩ hx
  dsimp only at hx ⊢
  rcases hx.symm with ⟨ek, rfl, d1, d2⟩ | ⟨c, q3, ek, tq3, -, c24, rfl, d1, d2⟩
  · rw [ek, bd_l]; exact tt_some ⟨rfl, d1, f5.fxs.e d2⟩
  rw [ek, bd_r]
  dsimp only
  have f8 := f5.trans d2
  refine tt_bind (v_need (k := 13) (hS.ft f8) hn (by decide) tq3 d1) ?_
  rintro ⟨v, i10⟩ hx
  dsimp only at hx ⊢
  rcases hx.symm with ⟨ek, rfl, g1, g2⟩ | ⟨ek, tq4, rfl, g1, g2⟩
  · rw [show nwd n T 28 q3 = _ from ek, bd_l]; exact tt_some ⟨rfl, g1, f8.fxs.e g2⟩
  rw [show nwd n T 28 q3 = _ from ek, bd_r]
  dsimp only
  have f10 := f8.trans g2
  refine tt_bind (v_number hn (lo := 1) (hi := 9) (by decide) (by decide) tq4.1 g1) ?_
  rintro ⟨v, i13⟩ hx
  dsimp only at hx ⊢
  rcases hx.symm with ⟨ek, rfl, k1, k2⟩ | ⟨z, q5, ek, tq5, z1, z9, rfl, k1, k2⟩
  · rw [ek, bd_l]; exact tt_some ⟨rfl, k1, f10.fxs.e k2⟩
  rw [ek, bd_r]
  dsimp only
  have f13 := f10.trans k2
  refine tt_bind (v_tno (k := 14) (hi := 99) (hS.ft f13) hn (by decide) (by decide) tq5 k1 90) ?_
  rintro ⟨v, i16⟩ hx
  dsimp only at hx ⊢
  rcases hx.symm with ⟨e, ek, rfl, l1, l2⟩ | ⟨f, q6, ek, hf, tq6, rfl, l1, l2⟩
  · rw [show tno n T 30 99 90 q5 = _ from ek, bd_l]; exact tt_some ⟨rfl, l1, f13.fxs.e l2⟩
  rw [show tno n T 30 99 90 q5 = _ from ek, bd_r]
  dsimp only
  have f16 := f13.trans l2
  obtain ⟨m, hm, rfl⟩ : ∃ m, m ≤ 99 ∧ f = nI m := by
    rcases hf with rfl | ⟨m, hm, rfl⟩
    · exact ⟨90, by decide, rfl⟩
    · exact ⟨m, hm, rfl⟩
  have hv16 : CV i16 1038 S := hv.congr (fun b j hb hb2 => f16 b j (by omega)) hw.1
  refine tt_bind (v_addFish hw.1 hv16 h8 (nI k) (nI c) (nI z)) ?_
  rintro ⟨w, i19⟩ ⟨m1, m2, m3⟩
  dsimp only at m1 m2 m3 ⊢
  subst m1
  have hwf := sfi_wf hw h8 k4 z1 z9 (show c < 25 by omega) hm
  have hsw := sad_wf hw h8 k4 z1 z9 (show c < 25 by omega)
  rw [if_neg (nI_m1 (by omega)), grd_nI h8 (by decide), ix_nI (by omega)]
  have hcv : CV (wr i19 (1038 + 3 + nf S) 2 (nI m)) 1038 (sfi S (nI k) (nI z) (nI c) (nI m)) := by
    refine (m2.fish (f := nf S) (i' := wr i19 (1038 + 3 + nf S) 2 (nI m)) (S' := sfi S (nI k) (nI z) (nI c) (nI m)) hsw.1 h8 (fun b j hb => wr_a hb) (fun x y z hn => su_o (by omega)) (fun hlt => ?_)).1
    obtain ⟨p0, p1, p2, p3, p4, p5⟩ := m2.2.2.1 (nf S) hlt
    unfold sfi
    rw [su_o (by omega), su_o (by omega), su_s, su_o (by omega), su_o (by omega), wr_k (by decide), wr_k (by decide), wr_s, wr_k (by decide), wr_k (by decide), wr_k (by decide)]
    exact ⟨p0, p1, rfl, p3, p4, p5⟩
  refine tt_bnd (tt_some ⟨rfl, hwf, hcv, ?_, tq6, fun b j h1 h2 => ?_⟩)
  · exact (l1.congr (fun b j hb => m3 b j (by omega))).wr (by omega) 2 (nI m)
  · show wr i19 (1038 + 3 + nf S) 2 (nI m) b j = _
    rw [wr_a (by omega), m3 b j (by omega)]
    exact f16 b j h2
end SEAC
