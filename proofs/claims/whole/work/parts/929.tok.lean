/-! ===== tokens, on both sides ===== -/
def vl (T : Nat → Int32) (s : Nat) : Nat → Nat
  | 0 => 0
  | k + 1 => 10 * vl T s k + (ix (T (s + k)) - 48)
/-- a number from lo to hi at s: what it is and where the next token stands, or s -/
def nmb (n : Nat) (T : Nat → Int32) (lo hi s : Nat) : Nat ⊕ (Nat × Nat) := if de n T s = s ∨ 3 < de n T s - s ∨ vl T s (de n T s - s) < lo ∨ hi < vl T s (de n T s - s) then .inl s else .inr (vl T s (de n T s - s), sp n T (de n T s))
def sgn (n : Nat) (T : Nat → Int32) (c : Int32) (s : Nat) : Bool := decide (s < n) && decide (T s = c)
/-- the next token behind a word -/
def nw (n : Nat) (T : Nat → Int32) (s : Nat) : Nat := sp n T (le n T s)
/-- a token starts at s, or it's the end -/
def tks (n : Nat) (T : Nat → Int32) (s : Nat) : Prop := s ≤ n ∧ sp n T s = s
section TOK
variable {t : MT} {i : MI} {n : Nat} {T : Nat → Int32}
theorem tks_sp {p : Nat} (hp : p ≤ n) : tks n T (sp n T p) := ⟨(sp_b hp).2.1, sp_sp hp⟩
theorem tks_nw {s : Nat} (hs : s ≤ n) : tks n T (nw n T s) := tks_sp (le_b hs).2.1
theorem wd_le {w s : Nat} (h : wd n T w s = true) : le n T s = s + wln w := by
  unfold wd at h
  rw [Bool.and_eq_true, decide_eq_true_eq] at h
  exact h.1
theorem srt_1 {x : Int32} : srt x = 1 ↔ isL x = true := by
  unfold srt
  constructor
  · intro h
    by_cases c : isL x = true
    · exact c
    · rw [if_neg c] at h
      split at h <;> omega
  · intro h; rw [if_pos h]
theorem srt_2 {x : Int32} : srt x = 2 ↔ isD x = true := by
  unfold srt
  constructor
  · intro h
    by_cases c : isL x = true
    · rw [if_pos c] at h; omega
    · rw [if_neg c] at h
      by_cases d : isD x = true
      · exact d
      · rw [if_neg d] at h; omega
  · intro h
    rw [if_neg (fun q => by have := ld_no q; rw [h] at this; exact absurd this (by decide)), if_pos h]
theorem srt_lt (x : Int32) : 1 ≤ srt x ∧ srt x ≤ 3 := by
  unfold srt
  split
  · omega
  · split <;> omega
/-- letters at s -/
theorem le_gt {s : Nat} (hs : s ≤ n) : s < le n T s ↔ s < n ∧ srt (T s) = 1 := by
  obtain ⟨l1, l2, l3, l4⟩ := le_b (T := T) hs
  rw [srt_1]
  constructor
  · intro h; exact ⟨by omega, l3 s (Nat.le_refl s) h⟩
  · rintro ⟨h1, h2⟩
    rcases Nat.lt_or_ge s (le n T s) with q | q
    · exact q
    · have : le n T s = s := by omega
      rw [this] at l4
      rw [l4 h1] at h2; exact absurd h2 (by decide)
theorem de_gt {s : Nat} (hs : s ≤ n) : s < de n T s ↔ s < n ∧ srt (T s) = 2 := by
  obtain ⟨l1, l2, l3, l4⟩ := de_b (T := T) hs
  rw [srt_2]
  constructor
  · intro h; exact ⟨by omega, l3 s (Nat.le_refl s) h⟩
  · rintro ⟨h1, h2⟩
    rcases Nat.lt_or_ge s (de n T s) with q | q
    · exact q
    · have : de n T s = s := by omega
      rw [this] at l4
      rw [l4 h1] at h2; exact absurd h2 (by decide)
theorem ed_le {s : Nat} (h1 : s < n) (h2 : srt (T s) = 1) : ed n T s = le n T s := by unfold ed; rw [if_neg (by omega), if_pos h2]
theorem ed_de {s : Nat} (h1 : s < n) (h2 : srt (T s) = 2) : ed n T s = de n T s := by unfold ed; rw [if_neg (by omega), if_neg (by omega), if_pos h2]
theorem TK.sort {s : Nat} (h : TK i n T s) (m : Nat) (hm : 1 ≤ m) (hm2 : m ≤ 3) : i 1595 4 = nI m ↔ (¬ s = n ∧ srt (T s) = m) := by
  obtain ⟨-, -, -, -, h5⟩ := h
  obtain ⟨q1, q2⟩ := srt_lt (T s)
  rw [h5]
  by_cases e : s = n
  · rw [if_pos e]
    exact ⟨fun q => by have := (nI_inj (a := 0) (by decide) (by omega)).mp q; omega, fun q => absurd e q.1⟩
  · rw [if_neg e, nI_inj (by omega) (by omega)]
    exact ⟨fun q => ⟨e, q⟩, fun q => q.2⟩
/-! the class -/
theorem v_isWord (hS : SV t i) (hn : n ≤ 400) {k s : Nat} (hk : k < 94) (hs : s ≤ n) (h : TK i n T s) : f_Ta_isWord t i (2 * k + 2) = some (if wd n T (2 * k + 2) s = true then 1 else 0) := by
  obtain ⟨w1, w2, w3⟩ := wln_lt k hk
  have key : Tt (f_Ta_isWord t i (2 * k + 2)) (fun v => v = if wd n T (2 * k + 2) s = true then 1 else 0) := by
    unfold f_Ta_isWord
    by_cases c : ¬ s = n ∧ srt (T s) = 1
    · have hsn : s < n := by omega
      have hle := (le_gt (T := T) hs).mpr ⟨hsn, c.2⟩
      obtain ⟨l1, l2, -, -⟩ := le_b (T := T) hs
      obtain ⟨h3, hT, h5, h6, -⟩ := id h
      rw [ed_le hsn c.2] at h6
      rw [if_pos (show i 1595 4 = 1 from (h.sort 1 (by decide) (by decide)).mpr c), j_len hS hk, Option.bind_some, h5, h6, sub_nI (by omega)]
      by_cases c2 : le n T s - s = wln (2 * k + 2)
      · rw [if_pos (by rw [c2])]
        refine tt_loop (fun j x => x = nI j ∧ ∀ k', k' < j → T (s + k') = nI (wc (2 * k + 2) k')) (wln (2 * k + 2)) (by omega) ?_ ?_ ⟨rfl, fun k' hk' => by omega⟩
        · rintro j hj _ ⟨rfl, hk'⟩
          have hcl := w3 j hj
          rw [Option.bind_some, if_pos (nI_lt hj (by omega)), nI_add, grd_nI (show s + j < 400 by omega) (by decide), j_chr hS hk hj, Option.bind_some, ix_nI (by omega), hT _ (by omega)]
          by_cases c3 : T (s + j) = nI (wc (2 * k + 2) j)
          · rw [if_pos c3]
            refine tt_some ⟨nI_1 j, fun k' hk2 => ?_⟩
            by_cases e : k' = j
            · subst e; exact c3
            · exact hk' k' (by omega)
          · rw [if_neg c3]
            refine tt_some ?_
            show (0 : Int32) = _
            rw [if_neg (fun q => by
              unfold wd at q
              rw [Bool.and_eq_true, decide_eq_true_eq, decide_eq_true_eq] at q
              exact c3 (q.2 j hj))]
        · rintro _ ⟨rfl, hk'⟩
          rw [Option.bind_some, if_neg (nI_nlt (Nat.le_refl _) (by omega))]
          refine tt_some ?_
          show (1 : Int32) = _
          rw [if_pos (by unfold wd; rw [decide_eq_true (show le n T s = s + wln (2 * k + 2) by omega), decide_eq_true hk']; rfl)]
      · rw [if_neg (fun q => c2 ((nI_inj (by omega) (by omega)).mp q)), if_neg (fun q => by have := wd_le q; omega)]
        exact tt_some rfl
    · have hle : ¬ s < le n T s := fun q => c (by have := (le_gt (T := T) hs).mp q; exact ⟨by omega, this.2⟩)
      rw [if_neg (show ¬ i 1595 4 = 1 from fun q => c ((h.sort 1 (by decide) (by decide)).mp q)), if_neg (fun q => by have := wd_le q; omega)]
      exact tt_some rfl
  obtain ⟨v, h1, rfl⟩ := key
  exact h1
theorem wd_ed {k s : Nat} (hk : k < 94) (hs : s ≤ n) (h : wd n T (2 * k + 2) s = true) : ed n T s = le n T s := by
  obtain ⟨w1, -, -⟩ := wln_lt k hk
  have h1 := wd_le h
  obtain ⟨h2, h3⟩ := (le_gt (T := T) hs).mp (by omega)
  exact ed_le h2 h3
theorem v_takeWord (hS : SV t i) (hn : n ≤ 400) {k s : Nat} (hk : k < 94) (hs : s ≤ n) (h : TK i n T s) : Tt (f_Ta_takeWord t i (2 * k + 2)) (fun y => y.1 = (if wd n T (2 * k + 2) s = true then 1 else 0) ∧ TK y.2 n T (if wd n T (2 * k + 2) s = true then nw n T s else s) ∧ ft i y.2) := by
  unfold f_Ta_takeWord
  rw [v_isWord hS hn hk hs h, Option.bind_some]
  by_cases c : wd n T (2 * k + 2) s = true
  · rw [if_pos c, if_neg (show ¬ (1 : Int32) = 0 by decide), if_pos c]
    refine tt_bind (v_step hn hs h) ?_
    rintro i2 ⟨e1, e2⟩
    rw [wd_ed hk hs c] at e1
    exact tt_grd2 (by decide) (tt_some ⟨rfl, e1, e2⟩)
  · rw [if_neg c, if_pos (show (0 : Int32) = 0 from rfl), if_neg c]
    exact tt_grd2 (by decide) (tt_some ⟨rfl, h, ft.refl i⟩)
/-- what a failing reader leaves alone -/
def fe (i i' : MI) : Prop := ∀ b j, ¬ (b = 1595 ∧ (j = 2 ∨ j = 4 ∨ j = 5 ∨ j = 6)) → i' b j = i b j
theorem ft.fe {i i' : MI} (h : ft i i') : fe i i' := fun b j hb => h b j (by omega)
theorem fe.trans {i j k : MI} (h : fe i j) (h2 : fe j k) : fe i k := fun b q hb => (h2 b q hb).trans (h b q hb)
theorem v_refuse {s : Nat} (h : TK i n T s) : f_Ta_refuse i = some (.inr 20, wr i 1595 2 (nI s)) := by
  unfold f_Ta_refuse
  rw [h.2.2.1]; rfl
theorem fe_ref {s : Nat} : fe i (wr i 1595 2 (nI s)) := fun b j hb => if_neg (by omega)
theorem v_needWord (hS : SV t i) (hn : n ≤ 400) {k s : Nat} (hk : k < 94) (hs : s ≤ n) (h : TK i n T s) : Tt (f_Ta_needWord t i (2 * k + 2)) (fun y => (wd n T (2 * k + 2) s = true ∧ y.1 = .inl () ∧ TK y.2 n T (nw n T s) ∧ ft i y.2) ∨ (¬ wd n T (2 * k + 2) s = true ∧ y.1 = .inr 20 ∧ y.2 1595 2 = nI s ∧ fe i y.2)) := by
  unfold f_Ta_needWord
  refine tt_bind (v_takeWord hS hn hk hs h) ?_
  rintro ⟨v, i2⟩ ⟨e1, e2, e3⟩
  dsimp only at e1 e2 e3 ⊢
  subst e1
  by_cases c : wd n T (2 * k + 2) s = true
  · rw [if_pos c] at e2
    rw [if_pos c, if_neg (show ¬ (1 : Int32) = 0 by decide)]
    exact tt_some (Or.inl ⟨c, rfl, e2, e3⟩)
  · rw [if_neg c] at e2
    rw [if_neg c, if_pos (show (0 : Int32) = 0 from rfl), v_refuse e2, Option.bind_some]
    exact tt_some (Or.inr ⟨c, rfl, (show wr i2 1595 2 (nI s) 1595 2 = _ from wr_s), e3.fe.trans fe_ref⟩)
theorem vl_lt {s : Nat} : ∀ k, (∀ j, j < k → isD (T (s + j)) = true) → vl T s k < 10 ^ k
  | 0, _ => (by decide : (0 : Nat) < 10 ^ 0)
  | k + 1, h => by
    have ih := vl_lt k (fun j hj => h j (by omega))
    obtain ⟨c, c1, c2, ec⟩ := isD_of (h k (by omega))
    have : vl T s (k + 1) = 10 * vl T s k + (ix (T (s + k)) - 48) := rfl
    rw [this, ec, ix_nI (by omega), Nat.pow_succ]
    omega
theorem nmb_inl {lo hi s : Nat} (h : de n T s = s ∨ 3 < de n T s - s ∨ vl T s (de n T s - s) < lo ∨ hi < vl T s (de n T s - s)) : nmb n T lo hi s = .inl s := if_pos h
theorem nmb_inr {lo hi s : Nat} (h : ¬ (de n T s = s ∨ 3 < de n T s - s ∨ vl T s (de n T s - s) < lo ∨ hi < vl T s (de n T s - s))) : nmb n T lo hi s = .inr (vl T s (de n T s - s), sp n T (de n T s)) := if_neg h
theorem v_number (hn : n ≤ 400) {lo hi s : Nat} (hlo : lo < 2 ^ 31) (hhi : hi < 2 ^ 31) (hs : s ≤ n) (h : TK i n T s) : Tt (f_Ta_number i (nI lo) (nI hi)) (fun y => (∃ v q, nmb n T lo hi s = .inr (v, q) ∧ tks n T q ∧ lo ≤ v ∧ v ≤ hi ∧ y.1 = .inl (nI v) ∧ TK y.2 n T q ∧ ft i y.2) ∨ (nmb n T lo hi s = .inl s ∧ y.1 = .inr 20 ∧ y.2 1595 2 = nI s ∧ fe i y.2)) := by
  obtain ⟨d1, d2, d3, d4⟩ := de_b (T := T) hs
  unfold f_Ta_number
  by_cases c : ¬ s = n ∧ srt (T s) = 2
  · have hsn : s < n := by omega
    have hde := (de_gt (T := T) hs).mpr ⟨hsn, c.2⟩
    obtain ⟨h3, hT, h5, h6, -⟩ := id h
    rw [ed_de hsn c.2] at h6
    rw [if_pos (show i 1595 4 = 2 from (h.sort 2 (by decide) (by decide)).mpr c), h5, h6, sub_nI (by omega)]
    by_cases c3 : 3 < de n T s - s
    · rw [if_pos (show (3 : Int32) < nI (de n T s - s) from nI_lt (a := 3) c3 (by omega)), v_refuse h, Option.bind_some, Option.bind_some]
      exact tt_some (Or.inr ⟨nmb_inl (Or.inr (Or.inl c3)), rfl, (show wr i 1595 2 (nI s) 1595 2 = _ from wr_s), fe_ref⟩)
    · rw [if_neg (show ¬ (3 : Int32) < nI (de n T s - s) from nI_nlt (a := 3) (by omega) (by omega)), Option.bind_some]
      dsimp only
      have hvl : ∀ k, k ≤ de n T s - s → vl T s k < 10 ^ k := fun k hk => vl_lt k (fun j hj => d3 _ (by omega) (by omega))
      have h10 : ∀ k, k ≤ 3 → 10 ^ k ≤ 1000 := fun k hk => Nat.pow_le_pow_right (n := 10) (by decide) hk
      refine tt_bind (P1 := fun v => v = nI (vl T s (de n T s - s)))
        (tt_loop (fun j (x : Int32 × Int32) => x = (nI (vl T s j), nI (s + j))) (de n T s - s) (by omega) ?_ ?_ ?_) ?_
      · rintro j hj _ rfl
        dsimp only
        obtain ⟨c', c1, c2, ec⟩ := isD_of (d3 (s + j) (by omega) (by omega))
        have hv := hvl j (by omega)
        have h10' := h10 j (by omega)
        rw [h6, if_pos (nI_lt (by omega) (by omega)), grd_nI (show s + j < 400 by omega) (by decide), ix_nI (by omega), hT _ (by omega), ec, lit_nI 10, lit_nI 48, mul_nI, nI_add, sub_nI (by omega)]
        refine tt_some ?_
        dsimp only [lpP]
        rw [nI_1, show vl T s (j + 1) = 10 * vl T s j + (ix (T (s + j)) - 48) from rfl, ec, ix_nI (by omega)]
        congr 2
        omega
      · rintro _ rfl
        dsimp only
        rw [h6, if_neg (nI_nlt (by omega) (by omega))]
        exact tt_some rfl
      · rw [h5]; rfl
      · rintro v rfl
        have hv := hvl (de n T s - s) (Nat.le_refl _)
        have h10' := h10 (de n T s - s) (by omega)
        by_cases c4 : vl T s (de n T s - s) < lo
        · rw [if_pos (nI_lt c4 (by omega)), v_refuse h, Option.bind_some, Option.bind_some]
          exact tt_some (Or.inr ⟨nmb_inl (Or.inr (Or.inr (Or.inl c4))), rfl, (show wr i 1595 2 (nI s) 1595 2 = _ from wr_s), fe_ref⟩)
        · rw [if_neg (nI_nlt (by omega) (by omega))]
          by_cases c5 : hi < vl T s (de n T s - s)
          · rw [if_pos (nI_lt c5 (by omega)), v_refuse h, Option.bind_some, Option.bind_some]
            exact tt_some (Or.inr ⟨nmb_inl (Or.inr (Or.inr (Or.inr c5))), rfl, (show wr i 1595 2 (nI s) 1595 2 = _ from wr_s), fe_ref⟩)
          · rw [if_neg (nI_nlt (by omega) (by omega)), Option.bind_some]
            dsimp only
            refine tt_bind (v_step hn hs h) ?_
            rintro i2 ⟨e1, e2⟩
            rw [ed_de hsn c.2] at e1
            exact tt_some (Or.inl ⟨_, _, nmb_inr (by omega), tks_sp d2, by omega, by omega, rfl, e1, e2⟩)
  · have hde : ¬ s < de n T s := fun q => c (by have := (de_gt (T := T) hs).mp q; exact ⟨by omega, this.2⟩)
    rw [if_neg (show ¬ i 1595 4 = 2 from fun q => c ((h.sort 2 (by decide) (by decide)).mp q)), v_refuse h, Option.bind_some, Option.bind_some]
    exact tt_some (Or.inr ⟨nmb_inl (Or.inl (by omega)), rfl, (show wr i 1595 2 (nI s) 1595 2 = _ from wr_s), fe_ref⟩)
theorem v_takeSign (hn : n ≤ 400) {s : Nat} (hs : s ≤ n) (h : TK i n T s) {c : Int32} (hc : srt c = 3) : Tt (f_Ta_takeSign i c) (fun y => y.1 = (if sgn n T c s = true then 1 else 0) ∧ TK y.2 n T (if sgn n T c s = true then sp n T (s + 1) else s) ∧ ft i y.2) := by
  unfold f_Ta_takeSign f_Ta_isSign
  obtain ⟨h3, hT, h5, h6, -⟩ := id h
  refine tt_bind (P1 := fun v => v = if sgn n T c s = true then 1 else 0) ?_ ?_
  · by_cases c1 : ¬ s = n ∧ srt (T s) = 3
    · rw [if_pos (show i 1595 4 = 3 from (h.sort 3 (by decide) (by decide)).mpr c1), h5, grd_nI (show s < 400 by omega) (by decide), ix_nI (by omega), hT _ (by omega)]
      unfold sgn
      rw [decide_eq_true (show s < n by omega), Bool.true_and]
      by_cases c2 : T s = c
      · rw [if_pos c2, if_pos (decide_eq_true c2)]; exact tt_some rfl
      · rw [if_neg c2, if_neg (by rw [decide_eq_false c2]; decide)]; exact tt_some rfl
    · rw [if_neg (show ¬ i 1595 4 = 3 from fun q => c1 ((h.sort 3 (by decide) (by decide)).mp q)), if_neg (fun q => by
        unfold sgn at q
        rw [Bool.and_eq_true, decide_eq_true_eq, decide_eq_true_eq] at q
        exact c1 ⟨by omega, by rw [q.2]; exact hc⟩)]
      exact tt_some rfl
  · rintro v rfl
    by_cases c1 : sgn n T c s = true
    · have q := c1
      unfold sgn at q
      rw [Bool.and_eq_true, decide_eq_true_eq, decide_eq_true_eq] at q
      rw [if_pos c1, if_neg (show ¬ (1 : Int32) = 0 by decide), if_pos c1]
      refine tt_bind (v_step hn hs h) ?_
      rintro i2 ⟨e1, e2⟩
      have hed : ed n T s = s + 1 := by
        unfold ed
        rw [if_neg (by omega), q.2, hc, if_neg (by decide), if_neg (by decide)]
      rw [hed] at e1
      exact tt_grd2 (by decide) (tt_some ⟨rfl, e1, e2⟩)
    · rw [if_neg c1, if_pos (show (0 : Int32) = 0 from rfl), if_neg c1]
      exact tt_grd2 (by decide) (tt_some ⟨rfl, h, ft.refl i⟩)
/-! the reference -/
def RX (i : MI) (n : Nat) (T : Nat → Int32) : Prop := i 1638 11 = nI n ∧ ∀ k, k < n → i 1644 k = T k
/-- it stands at s or in the blanks before -/
def RS (i : MI) (n : Nat) (T : Nat → Int32) (s : Nat) : Prop := RX i n T ∧ ∃ q, q ≤ n ∧ sp n T q = s ∧ i 1638 10 = nI q
/-- it has read the letters at s -/
def LeS (i : MI) (n : Nat) (T : Nat → Int32) (s : Nat) : Prop := RX i n T ∧ i 1638 12 = nI s ∧ i 1638 10 = nI (le n T s)
def fz (i i' : MI) : Prop := ∀ b j, ¬ (b = 1638 ∧ (j = 10 ∨ j = 12)) → i' b j = i b j
theorem fz.refl (i : MI) : fz i i := fun _ _ _ => rfl
theorem fz.trans {i j k : MI} (h : fz i j) (h2 : fz j k) : fz i k := fun b q hb => (h2 b q hb).trans (h b q hb)
theorem RX.fz {i' : MI} (h : RX i n T) (he : fz i i') : RX i' n T := ⟨by rw [he _ _ (by omega)]; exact h.1, fun k hk => by rw [he _ _ (by omega)]; exact h.2 k hk⟩
theorem fz_w {i i' : MI} (h : fz i i') {j : Nat} (hj : j = 10 ∨ j = 12) (v : Int32) : fz i (wr i' 1638 j v) := fun b k hb => by
  have : wr i' 1638 j v b k = i' b k := if_neg (by omega)
  rw [this]; exact h b k hb
theorem RS.tks {s : Nat} (h : RS i n T s) : tks n T s := by
  obtain ⟨-, q, h1, rfl, -⟩ := h
  exact tks_sp h1
theorem LeS.rs {s : Nat} (hs : s ≤ n) (h : LeS i n T s) : RS i n T (nw n T s) := ⟨h.1, le n T s, (le_b hs).2.1, rfl, h.2.2⟩
theorem m_isAt (hn : n ≤ 400) (hx : RX i n T) {q : Nat} (hq : q ≤ n) (h : i 1638 10 = nI q) (lo hi : Int32) : f_Mo_isAt i lo hi = some (if q < n ∧ win (T q) lo hi = true then 1 else 0) := by
  unfold f_Mo_isAt
  rw [h, hx.1]
  by_cases c : q < n
  · rw [if_pos (nI_lt c (by omega)), grd_nI (show q < 400 by omega) (by decide), ix_nI (by omega), hx.2 q c]
    unfold win
    by_cases a : T q < lo
    · rw [if_pos a, decide_eq_false (fun q => q a), Bool.false_and, if_neg (fun q => absurd q.2 (by decide))]
    · rw [if_neg a, decide_eq_true a, Bool.true_and]
      by_cases b : hi < T q
      · rw [if_pos b, decide_eq_false (fun q => q b), if_neg (fun q => absurd q.2 (by decide))]
      · rw [if_neg b, decide_eq_true b, if_pos ⟨c, rfl⟩]
  · rw [if_neg (nI_nlt (by omega) (by omega)), if_neg (fun q => c q.1)]
theorem win_32 {x : Int32} : win x 32 32 = true ↔ x = 32 := by
  rw [win_i]
  constructor
  · intro h; exact Int32.toInt_inj.mp (by omega)
  · intro h; rw [h]; omega
theorem m_blanks (hn : n ≤ 400) {s : Nat} (h : RS i n T s) : Tt (f_Mo_blanks i) (fun i' => RX i' n T ∧ i' 1638 10 = nI s ∧ i' 1638 12 = nI s ∧ fz i i') := by
  obtain ⟨hx, q, hq, es, h10⟩ := h
  obtain ⟨s1, s2, s3, s4⟩ := sp_b (T := T) hq
  rw [es] at s1 s2 s3 s4
  unfold f_Mo_blanks
  refine tt_bind (P1 := fun i' => i' 1638 10 = nI s ∧ fz i i')
    (tt_loop (fun j (x : MI) => x 1638 10 = nI (q + j) ∧ fz i x) (s - q) (by omega) ?_ ?_ ⟨h10, fz.refl i⟩) ?_
  · rintro j hj i2 ⟨e1, e2⟩
    rw [m_isAt hn (hx.fz e2) (show q + j ≤ n by omega) e1, Option.bind_some, if_pos (show q + j < n ∧ win (T (q + j)) 32 32 = true from ⟨by omega, win_32.mpr (s3 _ (by omega) (by omega))⟩), if_neg (show ¬ (1 : Int32) = 0 by decide), e1, nI_1]
    exact tt_bnd (tt_some ⟨wr_s, fz_w e2 (Or.inl rfl) _⟩)
  · rintro i2 ⟨e1, e2⟩
    rw [show q + (s - q) = s by omega] at e1
    rw [m_isAt hn (hx.fz e2) s2 e1, Option.bind_some, if_neg (show ¬ (s < n ∧ win (T s) 32 32 = true) from fun q => s4 q.1 (win_32.mp q.2)), if_pos (show (0 : Int32) = 0 from rfl)]
    exact tt_some ⟨e1, e2⟩
  · rintro i2 ⟨e1, e2⟩
    refine tt_bnd ?_
    rw [e1]
    have f2 := fz_w e2 (j := 12) (Or.inr rfl) (nI s)
    exact tt_some ⟨hx.fz f2, (wr_k (by decide)).trans e1, wr_s, f2⟩
theorem m_letters (hn : n ≤ 400) {s : Nat} (h : RS i n T s) : Tt (f_Mo_letters i) (fun i' => LeS i' n T s ∧ fz i i') := by
  have hs := h.tks.1
  obtain ⟨l1, l2, l3, l4⟩ := le_b (T := T) hs
  unfold f_Mo_letters
  refine tt_bind (m_blanks hn h) ?_
  rintro i1 ⟨x1, x2, x3, x4⟩
  refine tt_bind (P1 := fun i' => LeS i' n T s ∧ fz i i')
    (tt_loop (fun j (x : MI) => x 1638 10 = nI (s + j) ∧ x 1638 12 = nI s ∧ fz i x) (le n T s - s) (by omega) ?_ ?_ ⟨x2, x3, x4⟩) (fun i' hi => tt_some hi)
  · rintro j hj i2 ⟨e1, e2, e3⟩
    rw [m_isAt hn (h.1.fz e3) (show s + j ≤ n by omega) e1, Option.bind_some, if_pos (show s + j < n ∧ win (T (s + j)) 97 122 = true from ⟨by omega, l3 _ (by omega) (by omega)⟩), if_neg (show ¬ (1 : Int32) = 0 by decide), e1, nI_1]
    exact tt_bnd (tt_some ⟨wr_s, (wr_k (by decide)).trans e2, fz_w e3 (Or.inl rfl) _⟩)
  · rintro i2 ⟨e1, e2, e3⟩
    rw [show s + (le n T s - s) = le n T s by omega] at e1
    rw [m_isAt hn (h.1.fz e3) l2 e1, Option.bind_some, if_neg (show ¬ (le n T s < n ∧ win (T (le n T s)) 97 122 = true) from fun q => by have h1 := l4 q.1; have h2 := q.2; unfold isL at h1; rw [h1] at h2; exact absurd h2 (by decide)), if_pos (show (0 : Int32) = 0 from rfl)]
    exact tt_some ⟨⟨h.1.fz e3, e2, e1⟩, e3⟩
theorem m_isWord (hS : SV t i) (hn : n ≤ 400) {k s : Nat} (hk : k < 94) (hs : s ≤ n) (h : LeS i n T s) : f_Mo_isWord t i (2 * k + 2) = some (if wd n T (2 * k + 2) s = true then 1 else 0) := by
  obtain ⟨w1, w2, w3⟩ := wln_lt k hk
  obtain ⟨l1, l2, -, -⟩ := le_b (T := T) hs
  obtain ⟨hx, h12, h10⟩ := h
  have key : Tt (f_Mo_isWord t i (2 * k + 2)) (fun v => v = if wd n T (2 * k + 2) s = true then 1 else 0) := by
    unfold f_Mo_isWord
    rw [j_len hS hk, Option.bind_some, h10, h12, sub_nI (by omega)]
    by_cases c2 : le n T s - s = wln (2 * k + 2)
    · rw [if_pos (by rw [c2]), Option.bind_some]
      refine tt_bind (P1 := fun v => v = if wd n T (2 * k + 2) s = true then 1 else 0)
        (tt_loop (fun j (x : Int32 × Int32) => x.2 = nI j ∧ ((x.1 = 1 ∧ ∀ k', k' < j → T (s + k') = nI (wc (2 * k + 2) k')) ∨ (x.1 = 0 ∧ ¬ wd n T (2 * k + 2) s = true))) (wln (2 * k + 2)) (by omega) ?_ ?_ ⟨rfl, Or.inl ⟨rfl, fun k' hk' => by omega⟩⟩) ?_
      · rintro j hj ⟨x2, x3⟩ ⟨e1, e2⟩
        dsimp only at e1 e2 ⊢
        subst e1
        rcases e2 with ⟨rfl, e3⟩ | ⟨rfl, e3⟩
        · rw [if_neg (show ¬ (1 : Int32) = 0 by decide), Option.bind_some, if_pos (nI_lt hj (by omega)), nI_add, grd_nI (show s + j < 400 by omega) (by decide), j_chr hS hk hj, Option.bind_some, ix_nI (by omega), hx.2 _ (by omega)]
          by_cases c3 : T (s + j) = nI (wc (2 * k + 2) j)
          · rw [if_pos c3, Option.bind_some]
            refine tt_some ⟨nI_1 j, Or.inl ⟨rfl, fun k' hk2 => ?_⟩⟩
            by_cases e : k' = j
            · subst e; exact c3
            · exact e3 k' (by omega)
          · rw [if_neg c3, Option.bind_some]
            exact tt_some ⟨nI_1 j, Or.inr ⟨rfl, fun q => by
              unfold wd at q
              rw [Bool.and_eq_true, decide_eq_true_eq, decide_eq_true_eq] at q
              exact c3 (q.2 j hj)⟩⟩
        · rw [if_pos (show (0 : Int32) = 0 from rfl)]
          exact tt_some (by dsimp only [lpP]; rw [if_neg e3])
      · rintro ⟨x2, x3⟩ ⟨e1, e2⟩
        dsimp only at e1 e2 ⊢
        subst e1
        rcases e2 with ⟨rfl, e3⟩ | ⟨rfl, e3⟩
        · rw [if_neg (show ¬ (1 : Int32) = 0 by decide), Option.bind_some, if_neg (nI_nlt (Nat.le_refl _) (by omega))]
          refine tt_some ?_
          show (1 : Int32) = _
          rw [if_pos (by unfold wd; rw [decide_eq_true (show le n T s = s + wln (2 * k + 2) by omega), decide_eq_true e3]; rfl)]
        · rw [if_pos (show (0 : Int32) = 0 from rfl)]
          exact tt_some (by dsimp only [lpP]; rw [if_neg e3])
      · rintro v rfl
        exact tt_grd2 (decide_eq_true (by by_cases q : wd n T (2 * k + 2) s = true <;> simp [q])) (tt_some rfl)
    · have hw : ¬ wd n T (2 * k + 2) s = true := fun q => by have := wd_le q; omega
      rw [if_neg (fun q => c2 ((nI_inj (by omega) (by omega)).mp q)), Option.bind_some]
      refine tt_bind (P1 := fun v => v = 0)
        (tt_loop (fun q (x : Int32 × Int32) => x = (0, 0) ∧ q = 0) 1 (by omega) ?_ ?_ ⟨rfl, rfl⟩) ?_
      · rintro q hq _ ⟨rfl, -⟩
        dsimp only
        rw [if_pos (show (0 : Int32) = 0 from rfl)]
        exact tt_some rfl
      · rintro _ ⟨rfl, q⟩
        exact absurd q (by decide)
      · rintro v rfl
        exact tt_grd2 (by decide) (tt_some (by rw [if_neg hw]))
  obtain ⟨v, h1, rfl⟩ := key
  exact h1
theorem m_passes (hS : SV t i) (hn : n ≤ 400) {k s : Nat} (hk : k < 94) (h : RS i n T s) : Tt (f_Mo_passes t i (2 * k + 2)) (fun y => y.1 = (if wd n T (2 * k + 2) s = true then 1 else 0) ∧ RS y.2 n T (if wd n T (2 * k + 2) s = true then nw n T s else s) ∧ y.2 1638 12 = nI s ∧ fz i y.2) := by
  have hs := h.tks
  unfold f_Mo_passes
  refine tt_bind (m_letters hn h) ?_
  rintro i1 ⟨x1, x2⟩
  rw [m_isWord (hS.congr (fun b j hb => x2 b j (by omega))) hn hk hs.1 x1, Option.bind_some]
  by_cases c : wd n T (2 * k + 2) s = true
  · rw [if_pos c, if_neg (show ¬ (1 : Int32) = 0 by decide), if_pos c]
    exact tt_some ⟨rfl, x1.rs hs.1, x1.2.1, x2⟩
  · rw [if_neg c, if_pos (show (0 : Int32) = 0 from rfl), if_neg c, x1.2.1]
    have f2 := fz_w x2 (j := 10) (Or.inl rfl) (nI s)
    exact tt_bnd (tt_some ⟨rfl, ⟨h.1.fz f2, s, hs.1, hs.2, (show wr i1 1638 10 (nI s) 1638 10 = _ from wr_s)⟩, (show wr i1 1638 10 (nI s) 1638 12 = _ from (wr_k (by decide)).trans x1.2.1), f2⟩)
theorem m_sign (hn : n ≤ 400) {s : Nat} (h : RS i n T s) (c : Int32) : Tt (f_Mo_sign i c) (fun y => y.1 = (if sgn n T c s = true then 1 else 0) ∧ RS y.2 n T (if sgn n T c s = true then sp n T (s + 1) else s) ∧ y.2 1638 12 = nI s ∧ fz i y.2) := by
  have hs := h.tks
  unfold f_Mo_sign
  refine tt_bind (m_blanks hn h) ?_
  rintro i1 ⟨x1, x2, x3, x4⟩
  have hw : (s < n ∧ win (T s) c c = true) ↔ sgn n T c s = true := by
    unfold sgn
    rw [Bool.and_eq_true, decide_eq_true_eq, decide_eq_true_eq, win_i]
    refine and_congr_right (fun _ => ⟨fun q => Int32.toInt_inj.mp (by omega), fun q => by rw [q]; omega⟩)
  rw [m_isAt hn x1 hs.1 x2, Option.bind_some]
  by_cases a : sgn n T c s = true
  · have ha := hw.mpr a
    rw [if_pos ha, if_neg (show ¬ (1 : Int32) = 0 by decide), if_pos a, if_pos a, x2, nI_1]
    have f2 := fz_w x4 (j := 10) (Or.inl rfl) (nI (s + 1))
    exact tt_bnd (tt_some ⟨rfl, ⟨h.1.fz f2, s + 1, by omega, rfl, (show wr i1 1638 10 (nI (s + 1)) 1638 10 = _ from wr_s)⟩, (show wr i1 1638 10 (nI (s + 1)) 1638 12 = _ from (wr_k (by decide)).trans x3), f2⟩)
  · rw [if_neg (fun q => a (hw.mp q)), if_pos (show (0 : Int32) = 0 from rfl), if_neg a, if_neg a]
    exact tt_some ⟨rfl, ⟨x1, s, hs.1, hs.2, x2⟩, x3, x4⟩
theorem m_number (hn : n ≤ 400) {lo hi s : Nat} (hlo : lo < 2 ^ 31) (hhi : hi < 2 ^ 31) (h : RS i n T s) : Tt (f_Mo_number i (nI lo) (nI hi)) (fun y => ((∃ v q, nmb n T lo hi s = .inr (v, q) ∧ tks n T q ∧ lo ≤ v ∧ v ≤ hi ∧ y.1 = nI v ∧ RS y.2 n T q) ∨ (nmb n T lo hi s = .inl s ∧ y.1 = -1)) ∧ y.2 1638 12 = nI s ∧ fz i y.2) := by
  have hs := h.tks
  obtain ⟨d1, d2, d3, d4⟩ := de_b (T := T) hs.1
  unfold f_Mo_number
  refine tt_bind (m_blanks hn h) ?_
  rintro i1 ⟨x1, x2, x3, x4⟩
  have h10 : ∀ k, k ≤ 3 → 10 ^ k ≤ 1000 := fun k hk => Nat.pow_le_pow_right (n := 10) (by decide) hk
  have hvl : ∀ k, k ≤ de n T s - s → vl T s k < 10 ^ k := fun k hk => vl_lt k (fun j hj => d3 _ (by omega) (by omega))
  refine tt_bind (P1 := fun x => x.1 = nI (vl T s (min 3 (de n T s - s))) ∧ x.2 1638 10 = nI (de n T s) ∧ x.2 1638 12 = nI s ∧ fz i x.2)
    (tt_loop (fun j (x : Int32 × MI) => x.1 = nI (vl T s (min 3 j)) ∧ x.2 1638 10 = nI (s + j) ∧ x.2 1638 12 = nI s ∧ fz i x.2) (de n T s - s) (by omega) ?_ ?_ ⟨rfl, x2, x3, x4⟩) ?_
  · rintro j hj ⟨v, i2⟩ ⟨e1, e2, e3, e4⟩
    dsimp only at e1 e2 e3 e4 ⊢
    subst e1
    obtain ⟨c', c1, c2, ec⟩ := isD_of (d3 (s + j) (by omega) (by omega))
    have hx := h.1.fz e4
    rw [m_isAt hn hx (show s + j ≤ n by omega) e2, Option.bind_some, if_pos (show s + j < n ∧ win (T (s + j)) 48 57 = true from ⟨by omega, d3 _ (by omega) (by omega)⟩), if_neg (show ¬ (1 : Int32) = 0 by decide), e2, e3, sub_nI (by omega), show s + j - s = j by omega]
    refine tt_bind (P1 := fun v => v = nI (vl T s (min 3 (j + 1)))) ?_ ?_
    · by_cases c3 : j < 3
      · have hv := hvl j (by omega)
        have h10' := h10 j (by omega)
        rw [if_pos (show nI j < 3 from nI_lt (b := 3) c3 (by decide)), grd_nI (show s + j < 400 by omega) (by decide), ix_nI (by omega), hx.2 _ (by omega), ec, show min 3 j = j by omega, lit_nI 10, lit_nI 48, mul_nI, nI_add, sub_nI (by omega), show min 3 (j + 1) = j + 1 by omega, show vl T s (j + 1) = 10 * vl T s j + (ix (T (s + j)) - 48) from rfl, ec, ix_nI (by omega)]
        refine tt_some ?_
        congr 1
        omega
      · rw [if_neg (show ¬ nI j < 3 from nI_nlt (b := 3) (by omega) (by omega)), show min 3 j = 3 by omega, show min 3 (j + 1) = 3 by omega]
        exact tt_some rfl
    · rintro v rfl
      rw [nI_1]
      exact tt_bnd (tt_some ⟨rfl, (show wr i2 1638 10 (nI (s + j + 1)) 1638 10 = _ from wr_s), (show wr i2 1638 10 (nI (s + j + 1)) 1638 12 = _ from (wr_k (by decide)).trans e3), fz_w e4 (Or.inl rfl) _⟩)
  · rintro ⟨v, i2⟩ ⟨e1, e2, e3, e4⟩
    dsimp only at e1 e2 e3 e4 ⊢
    subst e1
    rw [show s + (de n T s - s) = de n T s by omega] at e2
    rw [m_isAt hn (h.1.fz e4) d2 e2, Option.bind_some, if_neg (show ¬ (de n T s < n ∧ win (T (de n T s)) 48 57 = true) from fun q => by have h1 := d4 q.1; have h2 := q.2; unfold isD at h1; rw [h1] at h2; exact absurd h2 (by decide)), if_pos (show (0 : Int32) = 0 from rfl)]
    exact tt_some ⟨rfl, e2, e3, e4⟩
  · rintro ⟨v, i2⟩ ⟨e1, e2, e3, e4⟩
    dsimp only at e1 e2 e3 e4 ⊢
    subst e1
    rw [e2, e3, sub_nI (by omega)]
    by_cases a1 : de n T s = s
    · rw [if_pos (by rw [a1])]
      exact tt_some ⟨Or.inr ⟨nmb_inl (Or.inl a1), rfl⟩, e3, e4⟩
    · rw [if_neg (fun q => a1 ((nI_inj (by omega) (by omega)).mp q))]
      by_cases a2 : 3 < de n T s - s
      · rw [if_pos (show (3 : Int32) < nI (de n T s - s) from nI_lt (a := 3) a2 (by omega))]
        exact tt_some ⟨Or.inr ⟨nmb_inl (Or.inr (Or.inl a2)), rfl⟩, e3, e4⟩
      · have hv := hvl (de n T s - s) (Nat.le_refl _)
        have h10' := h10 (de n T s - s) (by omega)
        rw [if_neg (show ¬ (3 : Int32) < nI (de n T s - s) from nI_nlt (a := 3) (by omega) (by omega)), show min 3 (de n T s - s) = de n T s - s by omega]
        by_cases a3 : vl T s (de n T s - s) < lo
        · rw [if_pos (nI_lt a3 (by omega))]
          exact tt_some ⟨Or.inr ⟨nmb_inl (Or.inr (Or.inr (Or.inl a3))), rfl⟩, e3, e4⟩
        · rw [if_neg (nI_nlt (by omega) (by omega))]
          by_cases a4 : hi < vl T s (de n T s - s)
          · rw [if_pos (nI_lt a4 (by omega))]
            exact tt_some ⟨Or.inr ⟨nmb_inl (Or.inr (Or.inr (Or.inr a4))), rfl⟩, e3, e4⟩
          · rw [if_neg (nI_nlt (by omega) (by omega))]
            exact tt_some ⟨Or.inl ⟨_, _, nmb_inr (by omega), tks_sp d2, by omega, by omega, rfl, ⟨h.1.fz e4, de n T s, d2, rfl, e2⟩⟩, e3, e4⟩
end TOK
