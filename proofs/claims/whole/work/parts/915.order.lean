/-! ===== order ===== -/
/-! sets within sets -/
def sbs (y P : Nat) : Prop := ∀ j, y.testBit j = true → P.testBit j = true
theorem sbs_and {y P : Nat} : sbs y P ↔ y &&& P = y := by
  constructor
  · intro h
    refine Nat.eq_of_testBit_eq (fun j => ?_)
    rw [Nat.testBit_and]
    cases c : y.testBit j
    · rfl
    · rw [h j c]; rfl
  · intro h j hj
    rw [← h, Nat.testBit_and, Bool.and_eq_true] at hj
    exact hj.2
theorem nx_max : ∀ n x y P : Nat, x < 2 ^ n → x &&& P = x → y &&& P = y → y < x → y ≤ (x - 1) &&& P
  | 0, x, y, P, hx, _, _, h => by rw [Nat.pow_zero] at hx; omega
  | n + 1, x, y, P, hx, h1, h2, h => by
    have d1 : (x &&& P) / 2 = x / 2 &&& P / 2 := Nat.and_div_two
    have d2 : (y &&& P) / 2 = y / 2 &&& P / 2 := Nat.and_div_two
    have d3 : ((x - 1) &&& P) / 2 = (x - 1) / 2 &&& P / 2 := Nat.and_div_two
    have m1 : (x &&& P) % 2 = 1 ↔ x % 2 = 1 ∧ P % 2 = 1 := Nat.and_mod_two_eq_one
    have m2 : (y &&& P) % 2 = 1 ↔ y % 2 = 1 ∧ P % 2 = 1 := Nat.and_mod_two_eq_one
    have m3 : ((x - 1) &&& P) % 2 = 1 ↔ (x - 1) % 2 = 1 ∧ P % 2 = 1 := Nat.and_mod_two_eq_one
    rw [h1] at d1 m1
    rw [h2] at d2 m2
    rw [Nat.pow_succ] at hx
    by_cases c : x % 2 = 1
    · rw [show (x - 1) / 2 = x / 2 by omega, ← d1] at d3
      omega
    · have ih := nx_max n (x / 2) (y / 2) (P / 2) (by omega) d1.symm d2.symm (by omega)
      rw [show (x - 1) / 2 = x / 2 - 1 by omega] at d3
      omega
theorem sbs_nx {x P : Nat} : sbs ((x - 1) &&& P) P := fun j hj => by
  rw [Nat.testBit_and, Bool.and_eq_true] at hj
  exact hj.2
theorem sbs_le {y P : Nat} (h : sbs y P) : y ≤ P := by
  have := sbs_and.mp h
  rw [← this]
  exact Nat.and_le_right
theorem sbs_setb {y P f : Nat} (h : sbs y P) (hf : P.testBit f = true) : sbs (setb y f) P := fun j hj => by
  rw [setb_t, Bool.or_eq_true, decide_eq_true_eq] at hj
  rcases hj with h1 | h1
  · exact h j h1
  · rw [← h1]; exact hf
theorem setb_gt {m f : Nat} (h : m.testBit f = false) : m < setb m f := by
  have h1 : m ≤ setb m f := Nat.left_le_or
  rcases Nat.lt_or_eq_of_le h1 with h2 | h2
  · exact h2
  · have h3 := setb_t m f f
    rw [← h2, h, decide_eq_true rfl, Bool.or_true] at h3
    exact absurd h3 (by decide)
theorem dif_z {m P : Nat} (hm : m < 256) : dif m P = 0 ↔ sbs m P := by
  constructor
  · intro h j hj
    have h1 := dif_t m P j
    rw [h, Nat.zero_testBit, hj, Bool.true_and] at h1
    have hj8 : j < 8 := by
      rcases Nat.lt_or_ge j 8 with h8 | h8
      · exact h8
      · rw [tb_big hm h8] at hj; exact absurd hj (by decide)
    rw [decide_eq_true hj8, Bool.true_and] at h1
    cases c : P.testBit j
    · rw [c] at h1; exact absurd h1 (by decide)
    · rfl
  · intro h
    refine m_ext (dif_lt m P) (by decide) (fun j hj => ?_)
    rw [dif_t, Nat.zero_testBit]
    cases c : m.testBit j
    · rw [Bool.false_and, Bool.and_false]
    · rw [h j c, Bool.not_true, Bool.and_false, Bool.and_false]
/-! how many -/
def bcn (m : Nat) : Nat := (bc m).toNatClampNeg
theorem bc_n : ∀ m, m < 256 → bc m = nI (bcn m) ∧ bcn m ≤ 8 := by decide +kernel
theorem bcn_setb : ∀ f, f < 8 → ∀ m, m < 256 → m.testBit f = false → bcn (setb m f) = bcn m + 1 := by decide +kernel
theorem bcn_0 : bcn 0 = 0 := by decide +kernel
/-! the greatest, of naturals -/
def mxN (p : Nat → Bool) (v : Nat → Nat) (n x0 : Nat) : Nat := fo (fun f x => if p f = true then max x (v f) else x) n x0
theorem mxN_at {p : Nat → Bool} {v : Nat → Nat} {x0 : Nat} : ∀ n, mxN p v n x0 = x0 ∨ ∃ f, f < n ∧ p f = true ∧ v f = mxN p v n x0
  | 0 => Or.inl rfl
  | n + 1 => by
    show (if p n = true then max (mxN p v n x0) (v n) else mxN p v n x0) = x0 ∨ ∃ f, f < n + 1 ∧ p f = true ∧ v f = (if p n = true then max (mxN p v n x0) (v n) else mxN p v n x0)
    have ih := mxN_at (p := p) (v := v) (x0 := x0) n
    by_cases c : p n = true
    · rw [if_pos c]
      rcases Nat.le_total (mxN p v n x0) (v n) with h | h
      · rw [Nat.max_eq_right h]; exact Or.inr ⟨n, by omega, c, rfl⟩
      · rw [Nat.max_eq_left h]
        rcases ih with h | ⟨f, h1, h2, h3⟩
        · exact Or.inl h
        · exact Or.inr ⟨f, by omega, h2, h3⟩
    · rw [if_neg c]
      rcases ih with h | ⟨f, h1, h2, h3⟩
      · exact Or.inl h
      · exact Or.inr ⟨f, by omega, h2, h3⟩
theorem mxN_le {p : Nat → Bool} {v : Nat → Nat} {x0 B : Nat} (h0 : x0 ≤ B) : ∀ n, (∀ f, f < n → p f = true → v f ≤ B) → mxN p v n x0 ≤ B
  | 0, _ => h0
  | n + 1, h => by
    have ih := mxN_le (p := p) (v := v) h0 n (fun f hf => h f (by omega))
    show (if p n = true then max (mxN p v n x0) (v n) else mxN p v n x0) ≤ B
    by_cases c : p n = true
    · rw [if_pos c]; exact Nat.max_le.mpr ⟨ih, h n (by omega) c⟩
    · rw [if_neg c]; exact ih
theorem mxN_x0 {p : Nat → Bool} {v : Nat → Nat} {x0 : Nat} : ∀ n, x0 ≤ mxN p v n x0
  | 0 => Nat.le_refl _
  | n + 1 => by
    have ih := mxN_x0 (p := p) (v := v) (x0 := x0) n
    show x0 ≤ (if p n = true then max (mxN p v n x0) (v n) else mxN p v n x0)
    by_cases c : p n = true
    · rw [if_pos c]; exact Nat.le_trans ih (Nat.le_max_left _ _)
    · rw [if_neg c]; exact ih
theorem mxN_ge {p : Nat → Bool} {v : Nat → Nat} {x0 : Nat} : ∀ n f, f < n → p f = true → v f ≤ mxN p v n x0
  | 0, f, h, _ => absurd h (Nat.not_lt_zero f)
  | n + 1, f, h, hp => by
    show v f ≤ (if p n = true then max (mxN p v n x0) (v n) else mxN p v n x0)
    by_cases e : f = n
    · subst e
      rw [if_pos hp]; exact Nat.le_max_right _ _
    · have ih := mxN_ge (p := p) (v := v) (x0 := x0) n f (by omega) hp
      by_cases c : p n = true
      · rw [if_pos c]; exact Nat.le_trans ih (Nat.le_max_left _ _)
      · rw [if_neg c]; exact ih
theorem mxN_s {p : Nat → Bool} {v : Nat → Nat} {x0 : Nat} (n : Nat) : mxN p v (n + 1) x0 = if p n = true then max (mxN p v n x0) (v n) else mxN p v n x0 := rfl
theorem mxN_congr {p p' : Nat → Bool} {v v' : Nat → Nat} {x0 : Nat} (n : Nat) (h : ∀ f, f < n → p f = p' f ∧ (p f = true → v f = v' f)) : mxN p v n x0 = mxN p' v' n x0 := by
  induction n with
  | zero =>
    show x0 = x0
    rfl
  | succ n ih =>
    obtain ⟨h1, h2⟩ := h n (by omega)
    rw [mxN_s, mxN_s, ih (fun f hf => h f (by omega)), ← h1]
    by_cases c : p n = true
    · rw [if_pos c, if_pos c, h2 c]
    · rw [if_neg c, if_neg c]
theorem nI_inj {a b : Nat} (ha : a < 2 ^ 31) (hb : b < 2 ^ 31) : nI a = nI b ↔ a = b := ⟨fun e => by
  have := congrArg Int32.toNatClampNeg e
  rw [nI_clamp ha, nI_clamp hb] at this
  exact this, fun e => by rw [e]⟩
/-! what is saved by an order -/
def gnv (S : SS) (L : LW) (m f : Nat) : Nat := if 0 < S 2 f 2 - bc m * str S L f then (S 2 f 1).toNatClampNeg else 0
def ogf (S : SS) (L : LW) (P : Nat) : Nat → Nat → Nat
  | 0, _ => 0
  | k + 1, m => mxN (fun f => (dif P m).testBit f) (fun f => gnv S L m f + ogf S L P k (setb m f)) (nf S) 0
def og (S : SS) (L : LW) (m : Nat) : Nat := ogf S L (plc S 2) 256 m
def opr (S : SS) (L : LW) (m f : Nat) : Bool := (dif (plc S 2) m).testBit f && decide (gnv S L m f + og S L (setb m f) = og S L m)
def ofs (S : SS) (L : LW) (m : Nat) : Nat := ffs (opr S L m) (nf S) 0
def omk (S : SS) (L : LW) : Nat → Nat
  | 0 => 0
  | q + 1 => setb (omk S L q) (ofs S L (omk S L q))
def spOrder (S : SS) (L : LW) (x : Int32) : Int32 := if x = -1 then nI (og S L 0) else if okx x (bcn (plc S 2)) = true then nI (ofs S L (omk S L (ix x))) else -1
section ORDER
variable {i : MI} {t : MT} {r : MR} {S : SS} {L : LW} {lw : Nat}
theorem ogf_any {P : Nat} : ∀ k k' m, m < 256 → 256 - m ≤ k → 256 - m ≤ k' → ogf S L P k m = ogf S L P k' m
  | 0, _, m, h, h1, _ => by omega
  | k + 1, 0, m, h, _, h2 => by omega
  | k + 1, k' + 1, m, h, h1, h2 => by
    unfold ogf
    refine mxN_congr (nf S) (fun f hf => ⟨rfl, fun hp => ?_⟩)
    rw [dif_t] at hp
    simp only [Bool.and_eq_true, decide_eq_true_eq, Bool.not_eq_true'] at hp
    have hg := setb_gt hp.2.2
    have hl := setb_lt h hp.1
    rw [ogf_any k k' (setb m f) hl (by omega) (by omega)]
theorem ogf_s {P k m : Nat} : ogf S L P (k + 1) m = mxN (fun f => (dif P m).testBit f) (fun f => gnv S L m f + ogf S L P k (setb m f)) (nf S) 0 := rfl
theorem og_eq {m : Nat} (h : m < 256) : og S L m = mxN (fun f => (dif (plc S 2) m).testBit f) (fun f => gnv S L m f + og S L (setb m f)) (nf S) 0 := by
  rw [show og S L m = ogf S L (plc S 2) (255 + 1) m from rfl, ogf_s]
  refine mxN_congr (nf S) (fun f hf => ⟨rfl, fun hp => ?_⟩)
  rw [dif_t] at hp
  simp only [Bool.and_eq_true, decide_eq_true_eq, Bool.not_eq_true'] at hp
  have hg := setb_gt hp.2.2
  have hl := setb_lt h hp.1
  rw [show og S L (setb m f) = ogf S L (plc S 2) 256 (setb m f) from rfl, ogf_any 255 256 (setb m f) hl (by omega) (by omega)]
theorem gnv_le (hw : Wf S) {m f : Nat} (hf : f < nf S) : gnv S L m f ≤ 9 := by
  obtain ⟨-, ⟨z, h1, h2, e⟩, -⟩ := hw.2.2.1 f hf
  unfold gnv
  split
  · rw [e, nI_clamp (by omega)]; exact h2
  · omega
theorem ogf_le (hw : Wf S) {P : Nat} : ∀ k m, ogf S L P k m ≤ 9 * k
  | 0, _ => Nat.le_refl _
  | k + 1, m => by
    unfold ogf
    refine mxN_le (Nat.zero_le _) (nf S) (fun f hf _ => ?_)
    have h1 := gnv_le (L := L) (m := m) hw hf
    have h2 := ogf_le hw (P := P) k (setb m f)
    omega
theorem og_le (hw : Wf S) (m : Nat) : og S L m ≤ 2304 := ogf_le hw 256 m
theorem plc_lt (hc : Cnt S) (p : Int32) : plc S p < 2 ^ nf S := bits_lt _ _
theorem plc_8 (hc : Cnt S) (p : Int32) : plc S p < 256 := bits_256 _ hc.f8
theorem plc_nf {p : Int32} {f : Nat} (h : (plc S p).testBit f = true) : f < nf S := by
  unfold plc at h
  rw [bits_test, Bool.and_eq_true, decide_eq_true_eq] at h
  exact h.1
theorem ofs_sp (hw : Wf S) {m : Nat} (hm : m < 256) (hs : sbs m (plc S 2)) (hne : m ≠ plc S 2) : ofs S L m < nf S ∧ opr S L m (ofs S L m) = true ∧ ∀ g, g < ofs S L m → opr S L m g = false := by
  have h8 := hw.1.f8
  have hex : ∃ f, f < nf S ∧ (dif (plc S 2) m).testBit f = true := by
    refine Classical.byContradiction (fun hn => hne (m_ext hm (plc_8 hw.1 2) (fun j hj => ?_)))
    cases c : (plc S 2).testBit j
    · cases c2 : m.testBit j
      · rfl
      · rw [hs j c2] at c; exact absurd c (by decide)
    · cases c2 : m.testBit j
      · refine absurd ⟨j, plc_nf c, ?_⟩ hn
        rw [dif_t, decide_eq_true hj, c, c2]; rfl
      · rfl
  have hop : ∃ f, f < nf S ∧ opr S L m f = true := by
    rcases mxN_at (p := fun f => (dif (plc S 2) m).testBit f) (v := fun f => gnv S L m f + og S L (setb m f)) (x0 := 0) (nf S) with h | ⟨f, h1, h2, h3⟩
    · obtain ⟨f, hf, hp⟩ := hex
      have hge := mxN_ge (p := fun f => (dif (plc S 2) m).testBit f) (v := fun f => gnv S L m f + og S L (setb m f)) (x0 := 0) (nf S) f hf hp
      rw [h] at hge
      rw [← og_eq hm] at h
      refine ⟨f, hf, ?_⟩
      unfold opr
      rw [hp, Bool.true_and, decide_eq_true_eq]
      have : gnv S L m f + og S L (setb m f) ≤ 0 := hge
      omega
    · refine ⟨f, h1, ?_⟩
      rw [← og_eq hm] at h3
      unfold opr
      rw [h2, Bool.true_and, decide_eq_true_eq]
      exact h3
  obtain ⟨h1, h2, h3, h4⟩ := ffs_sp (opr S L m) (nf S) 0
  have hlt : ofs S L m < nf S := by
    obtain ⟨f, hf, hp⟩ := hop
    rcases Nat.lt_or_ge (ofs S L m) (nf S) with h | h
    · exact h
    · have : opr S L m f = false := h3 f (Nat.zero_le f) (by show f < ofs S L m; omega)
      rw [this] at hp; exact absurd hp (by decide)
  exact ⟨hlt, h4 (by show ofs S L m < 0 + nf S; omega), fun g hg => h3 g (Nat.zero_le g) hg⟩
theorem omk_sp (hw : Wf S) : ∀ q, q ≤ bcn (plc S 2) → omk S L q < 256 ∧ sbs (omk S L q) (plc S 2) ∧ bcn (omk S L q) = q
  | 0, _ => ⟨show 0 < 256 by decide, fun j hj => by rw [show omk S L 0 = 0 from rfl, Nat.zero_testBit] at hj; exact absurd hj (by decide), bcn_0⟩
  | q + 1, hq => by
    obtain ⟨h1, h2, h3⟩ := omk_sp hw q (by omega)
    have h8 := hw.1.f8
    obtain ⟨g1, g2, -⟩ := ofs_sp (L := L) hw h1 h2 (fun e => by rw [e] at h3; omega)
    unfold opr at g2
    rw [Bool.and_eq_true, dif_t] at g2
    simp only [Bool.and_eq_true, decide_eq_true_eq, Bool.not_eq_true'] at g2
    show setb (omk S L q) (ofs S L (omk S L q)) < 256 ∧ sbs (setb (omk S L q) (ofs S L (omk S L q))) (plc S 2) ∧ bcn (setb (omk S L q) (ofs S L (omk S L q))) = q + 1
    exact ⟨setb_lt h1 (by omega), sbs_setb h2 g2.1.2.1, by rw [bcn_setb _ (by omega) _ h1 g2.1.2.2, h3]⟩
/-! the class -/
theorem v_gain (hw : Wf S) (h : CV i 1001 S) {m f : Nat} (hm : m < 256) (hf : f < nf S) (ht : i 1629 f = str S L f) : f_Sl_gain i 1001 (nI f) (bc m) = some (nI (gnv S L m f)) := by
  have h8 := hw.1.f8
  obtain ⟨-, ⟨z, z1, z2, ez⟩, -⟩ := hw.2.2.1 f hf
  have e := h.2.2.1 f hf
  unfold f_Sl_gain gnv
  rw [grd_nI (show f < 8 by omega) (by decide), ix_nI (by omega), e.2.2.1, e.2.1, ht]
  by_cases c : 0 < S 2 f 2 - bc m * str S L f
  · rw [if_pos c, if_pos c, ez, nI_clamp (by omega)]
  · rw [if_neg c, if_neg c]; rfl
theorem v_bestOrder (hw : Wf S) (h : CV i 1001 S) {m : Nat} (hm : m < 256) (ht : ∀ f, f < nf S → i 1629 f = str S L f) (hT : ∀ f, (dif (plc S 2) m).testBit f = true → i (1622 + 0) (setb m f) = nI (og S L (setb m f))) : f_Sl_bestOrder i 1001 (nI (plc S 2)) (nI m) = some (nI (og S L m)) := by
  have h8 := hw.1.f8
  have key : Tt (f_Sl_bestOrder i 1001 (nI (plc S 2)) (nI m)) (fun v => v = nI (og S L m)) := by
    unfold f_Sl_bestOrder
    rw [j_bc, Option.bind_some, dif_nI (plc_8 hw.1 2)]
    refine tt_bind (P1 := fun v => v = nI (og S L m))
      (tt_loop (fun j (s : Int32 × Int32) => s = (nI (mxN (fun f => (dif (plc S 2) m).testBit f) (fun f => gnv S L m f + og S L (setb m f)) j 0), nI j)) (nf S) (by omega) ?_ ?_ rfl) (fun v hv => tt_some hv)
    · rintro j hj _ rfl
      dsimp only
      refine tt_ifp (show nI j < i 1001 7 by rw [h.1.1, hw.1.f]; exact nI_lt hj (by omega)) ?_
      refine tt_bind (P1 := fun v => v = nI (mxN (fun f => (dif (plc S 2) m).testBit f) (fun f => gnv S L m f + og S L (setb m f)) (j + 1) 0)) ?_ (fun v hv => by subst hv; exact tt_some (by dsimp only [lpP]; rw [nI_1]))
      show Tt _ (fun v => v = nI (if (dif (plc S 2) m).testBit j = true then max (mxN (fun f => (dif (plc S 2) m).testBit f) (fun f => gnv S L m f + og S L (setb m f)) j 0) (gnv S L m j + og S L (setb m j)) else mxN (fun f => (dif (plc S 2) m).testBit f) (fun f => gnv S L m f + og S L (setb m f)) j 0))
      have hB : mxN (fun f => (dif (plc S 2) m).testBit f) (fun f => gnv S L m f + og S L (setb m f)) j 0 ≤ 2313 := mxN_le (Nat.zero_le _) j (fun f hf _ => by
        have h1 := gnv_le (L := L) (m := m) hw (show f < nf S by omega)
        have h2 := og_le (L := L) hw (setb m f)
        omega)
      by_cases c : (dif (plc S 2) m).testBit j = true
      · have h1 := gnv_le (L := L) (m := m) hw hj
        have h2 := og_le (L := L) hw (setb m j)
        rw [if_neg (fun q => (bit_sh (dif_lt _ _) (by omega)).mp q c), v_gain hw h hm hj (ht j hj), Option.bind_some, or_setb (by omega), grd_nI (show setb m j < 256 from setb_lt hm (by omega)) (by decide), ix_nI (Nat.lt_of_lt_of_le (setb_lt hm (by omega)) (by decide)), hT j c, nI_add, j_max, Option.bind_some, jmax_nI (by omega) (by omega), if_pos c]
        exact tt_some rfl
      · rw [if_pos ((bit_sh (dif_lt _ _) (by omega)).mpr c), if_neg c]
        exact tt_some rfl
    · rintro _ rfl
      dsimp only
      refine tt_ifn (show ¬ nI (nf S) < i 1001 7 by rw [h.1.1, hw.1.f]; exact nI_nlt (Nat.le_refl _) (by omega)) ?_
      exact tt_some (by dsimp only [lpP]; rw [og_eq hm])
  obtain ⟨v, h1, rfl⟩ := key
  exact h1
theorem v_firstOrder (hw : Wf S) (h : CV i 1001 S) {m : Nat} (hm : m < 256) (hs : sbs m (plc S 2)) (hne : m ≠ plc S 2) (ht : ∀ f, f < nf S → i 1629 f = str S L f) (hT : ∀ y, sbs y (plc S 2) → i (1622 + 0) y = nI (og S L y)) : f_Sl_firstOrder i 1001 (nI (plc S 2)) (nI m) = some (nI (ofs S L m)) := by
  have h8 := hw.1.f8
  obtain ⟨g1, g2, g3⟩ := ofs_sp (L := L) hw hm hs hne
  have key : Tt (f_Sl_firstOrder i 1001 (nI (plc S 2)) (nI m)) (fun v => v = nI (ofs S L m)) := by
    unfold f_Sl_firstOrder
    rw [j_bc, Option.bind_some, dif_nI (plc_8 hw.1 2)]
    refine tt_loop (fun j (s : Int32) => s = nI j ∧ j ≤ ofs S L m) (nf S) (by omega) ?_ ?_ ⟨rfl, Nat.zero_le _⟩
    · rintro j hj _ ⟨rfl, hle⟩
      refine tt_ifp (show nI j < i 1001 7 by rw [h.1.1, hw.1.f]; exact nI_lt hj (by omega)) ?_
      by_cases c : (dif (plc S 2) m).testBit j = true
      · have h1 := gnv_le (L := L) (m := m) hw hj
        have h2 := og_le (L := L) hw (setb m j)
        have h3 := og_le (L := L) hw m
        have hsj : sbs (setb m j) (plc S 2) := sbs_setb hs (by
          rw [dif_t] at c
          simp only [Bool.and_eq_true] at c
          exact c.2.1)
        rw [if_neg (fun q => (bit_sh (dif_lt _ _) (by omega)).mp q c), Option.bind_some, if_neg (show ¬ (1 : Int32) = 0 by decide), v_gain hw h hm hj (ht j hj), Option.bind_some, or_setb (by omega), grd_nI (show setb m j < 256 from setb_lt hm (by omega)) (by decide), grd_nI (show m < 256 from hm) (by decide), ix_nI (Nat.lt_of_lt_of_le (setb_lt hm (by omega)) (by decide)), ix_nI (by omega), hT _ hsj, hT m hs, nI_add]
        have hiff : nI (gnv S L m j + og S L (setb m j)) = nI (og S L m) ↔ opr S L m j = true := by
          rw [nI_inj (by omega) (by omega)]
          unfold opr
          rw [c, Bool.true_and, decide_eq_true_eq]
        by_cases c2 : opr S L m j = true
        · rw [if_pos (hiff.mpr c2)]
          have : j = ofs S L m := by
            by_cases q : j < ofs S L m
            · rw [g3 j q] at c2; exact absurd c2 (by decide)
            · omega
          exact tt_some (by dsimp only [lpP]; rw [← this])
        · rw [if_neg (fun q => c2 (hiff.mp q))]
          have : j ≠ ofs S L m := fun q => c2 (by rw [q]; exact g2)
          exact tt_some ⟨nI_1 j, by omega⟩
      · rw [if_pos ((bit_sh (dif_lt _ _) (by omega)).mpr c), Option.bind_some, if_pos (show (0 : Int32) = 0 from rfl)]
        have : j ≠ ofs S L m := fun q => c (by
          rw [q]
          unfold opr at g2
          rw [Bool.and_eq_true] at g2
          exact g2.1)
        exact tt_some ⟨nI_1 j, by omega⟩
    · rintro _ ⟨rfl, hle⟩
      omega
  obtain ⟨v, h1, rfl⟩ := key
  exact h1
theorem v_planOrder (hw : Wf S) (h : CV i 1001 S) (hL : WL L) (hl : CL t i (r 1001 16) L) (hlw : LwOK (r 1001 16)) : Tt (f_Sl_planOrder t r i 1001) (fun i' => i' 1620 4 = nI (og S L 0) ∧ (∀ q, q < bcn (plc S 2) → i' 1630 q = nI (ofs S L (omk S L q))) ∧ fS (r 1001 16) i i') := by
  have hna := hlw.n
  unfold LwOK at hlw
  have h8 := hw.1.f8
  have hP := plc_8 hw.1 2
  obtain ⟨hbc, hb8⟩ := bc_n _ hP
  have hC : ∀ i' : MI, fS (r 1001 16) i i' → CV i' 1001 S := fun i' hf => h.congr (fun b k _ _ => hf b k (by omega) (by omega)) hw.1
  have hCL : ∀ i' : MI, fS (r 1001 16) i i' → CL t i' (r 1001 16) L := fun i' hf => hl.congr (fun b k hb => hf b k (by omega) (by omega))
  unfold f_Sl_planOrder
  rw [v_placed hw.1 h 2, Option.bind_some]
  refine tt_bind (P1 := fun i' => (∀ f, f < nf S → i' 1629 f = str S L f) ∧ fS (r 1001 16) i i')
    (tt_loop (fun q (s : Int32 × MI) => s.1 = nI q ∧ (∀ f, f < q → s.2 1629 f = str S L f) ∧ fS (r 1001 16) i s.2) (nf S) (by omega) ?_ ?_ ⟨rfl, fun f hf => by omega, fun _ _ _ _ => rfl⟩) ?_
  · rintro q hq ⟨z, i2⟩ ⟨e1, e2, e3⟩
    dsimp only at e1 e2 e3 ⊢
    subst e1
    refine tt_ifp (show nI q < i2 1001 7 by rw [(hC i2 e3).1.1, hw.1.f]; exact nI_lt hq (by omega)) ?_
    refine tt_bind (v_turns hw.1 (hC i2 e3) hL (hCL i2 e3) hna hq) ?_
    rintro ⟨v, i3⟩ ⟨g1, g2⟩
    dsimp only at g1 g2 ⊢
    subst g1
    rw [grd_nI (show q < 8 by omega) (by decide), ix_nI (by omega)]
    refine tt_bnd (tt_some ⟨nI_1 q, fun f hf => ?_, fun b j hb hb2 => ?_⟩)
    · show wr i3 1629 q (str S L q) 1629 f = _
      by_cases e : f = q
      · subst e; rw [wr_s]
      · rw [wr_k e, g2 _ _ (by omega)]; exact e2 f (by omega)
    · show wr i3 1629 q (str S L q) b j = _
      rw [wr_a (by omega), g2 b j hb]; exact e3 b j hb hb2
  · rintro ⟨z, i2⟩ ⟨e1, e2, e3⟩
    dsimp only at e1 e2 e3 ⊢
    subst e1
    refine tt_ifn (show ¬ nI (nf S) < i2 1001 7 by rw [(hC i2 e3).1.1, hw.1.f]; exact nI_nlt (Nat.le_refl _) (by omega)) ?_
    exact tt_some ⟨e2, e3⟩
  rintro i1 ⟨ht1, hf1⟩
  refine tt_bind (P1 := fun i' => (∀ y, 0 < y → sbs y (plc S 2) → i' (1622 + 0) y = nI (og S L y)) ∧ (∀ f, f < nf S → i' 1629 f = str S L f) ∧ fS (r 1001 16) i i')
    (tt_loopm (fun (s : Int32 × MI) => ∃ x, s.1 = nI x ∧ sbs x (plc S 2) ∧ (∀ y, x < y → sbs y (plc S 2) → s.2 (1622 + 0) y = nI (og S L y)) ∧ (∀ f, f < nf S → s.2 1629 f = str S L f) ∧ fS (r 1001 16) i s.2) (fun s => ix s.1) ?_ 1000000 _ ?_ ⟨plc S 2, rfl, fun _ hj => hj, fun y hy hs => by have := sbs_le hs; omega, ht1, hf1⟩) ?_
  · rintro ⟨z, i2⟩ ⟨x, e1, e2, e3, e4, e5⟩
    dsimp only at e1 e2 e3 e4 e5 ⊢
    subst e1
    have hx := sbs_le e2
    by_cases h0 : x = 0
    · subst h0
      rw [if_neg (by decide)]
      exact tt_some ⟨e3, e4, e5⟩
    · rw [if_pos (show (0 : Int32) < nI x by rw [lit_nI 0]; exact nI_lt (by omega) (by omega)), v_bestOrder hw (hC i2 e5) (by omega) e4 (fun f hf => by
        rw [dif_t] at hf
        simp only [Bool.and_eq_true, decide_eq_true_eq, Bool.not_eq_true'] at hf
        exact e3 _ (setb_gt hf.2.2) (sbs_setb e2 hf.2.1)), Option.bind_some, grd_nI (show x < 256 by omega) (by decide), ix_nI (by omega)]
      have hn : nI x - 1 &&& nI (plc S 2) = nI ((x - 1) &&& plc S 2) := by
        rw [show nI x - 1 = nI (x - 1) by rw [show x = (x - 1) + 1 by omega, nI_pred]; rfl, and_nI]
      have hle : (x - 1) &&& plc S 2 ≤ x - 1 := Nat.and_le_left
      refine tt_bnd (tt_some ⟨⟨(x - 1) &&& plc S 2, hn, sbs_nx, fun y hy hs => ?_, fun f hf => ?_, fun b j hb hb2 => ?_⟩, ?_⟩)
      · show wr i2 (1622 + 0) x (nI (og S L x)) (1622 + 0) y = _
        by_cases e : y = x
        · subst e; rw [wr_s]
        · rw [wr_k e]
          refine e3 y ?_ hs
          rcases Nat.lt_or_ge y x with q | q
          · have := nx_max 8 x y (plc S 2) (by omega) (sbs_and.mp e2) (sbs_and.mp hs) q
            omega
          · omega
      · show wr i2 (1622 + 0) x (nI (og S L x)) 1629 f = _
        rw [wr_a (by decide)]; exact e4 f hf
      · show wr i2 (1622 + 0) x (nI (og S L x)) b j = _
        rw [wr_a (by omega)]; exact e5 b j hb hb2
      · show ix (nI x - 1 &&& nI (plc S 2)) < x
        rw [hn, ix_nI (by omega)]
        omega
  · show ix (nI (plc S 2)) < 1000000
    rw [ix_nI (by omega)]; omega
  rintro i2 ⟨e3, e4, e5⟩
  rw [show (0 : Int32) = nI 0 from rfl, v_bestOrder hw (hC i2 e5) (by decide) e4 (fun f hf => by
        rw [dif_t] at hf
        simp only [Bool.and_eq_true, decide_eq_true_eq, Bool.not_eq_true'] at hf
        have hz : sbs 0 (plc S 2) := fun j hj => by rw [Nat.zero_testBit] at hj; exact absurd hj (by decide)
        exact e3 _ (setb_gt hf.2.2) (sbs_setb hz hf.2.1)), Option.bind_some]
  refine tt_bnd (tt_bnd ?_)
  rw [wr_s]
  have hT : ∀ y, sbs y (plc S 2) → wr (wr i2 (1622 + 0) 0 (nI (og S L 0))) 1620 4 (nI (og S L 0)) (1622 + 0) y = nI (og S L y) := fun y hy => by
    rw [wr_a (by decide)]
    by_cases e : y = 0
    · subst e; rw [wr_s]
    · rw [wr_k e]; exact e3 y (by omega) hy
  refine tt_bind (P1 := fun i' => i' 1620 4 = nI (og S L 0) ∧ (∀ q, q < bcn (plc S 2) → i' 1630 q = nI (ofs S L (omk S L q))) ∧ fS (r 1001 16) i i')
    (tt_loop (fun q (s : Int32 × Int32 × MI) => s.1 = nI (omk S L q) ∧ s.2.1 = nI q ∧ (∀ k, k < q → s.2.2 1630 k = nI (ofs S L (omk S L k))) ∧ s.2.2 1620 4 = nI (og S L 0) ∧ (∀ y, sbs y (plc S 2) → s.2.2 (1622 + 0) y = nI (og S L y)) ∧ (∀ f, f < nf S → s.2.2 1629 f = str S L f) ∧ fS (r 1001 16) i s.2.2) (bcn (plc S 2)) (by omega) ?_ ?_ ⟨rfl, rfl, fun k hk => by omega, show wr (wr i2 (1622 + 0) 0 (nI (og S L 0))) 1620 4 (nI (og S L 0)) 1620 4 = _ from wr_s, hT, fun f hf => ?_, fun b j hb hb2 => ?_⟩) (fun i' hi => tt_some hi)
  · rintro q hq ⟨x, z, i5⟩ ⟨k0, k1, k2, k3, k4, k5, k6⟩
    dsimp only at k0 k1 k2 k3 k4 k5 k6 ⊢
    subst k0 k1
    obtain ⟨o1, o2, o3⟩ := omk_sp (L := L) hw q (by omega)
    have hne : omk S L q ≠ plc S 2 := fun e => by rw [e] at o3; omega
    obtain ⟨p1, -⟩ := ofs_sp (L := L) hw o1 o2 hne
    rw [j_bc, Option.bind_some, hbc, if_pos (nI_lt hq (by omega)), v_firstOrder hw (hC i5 k6) o1 o2 hne k5 k4, Option.bind_some, grd_nI (show q < 8 by omega) (by decide), ix_nI (by omega)]
    refine tt_bnd ?_
    rw [wr_s]
    refine tt_some ⟨or_setb (by omega), nI_1 q, fun k hk => ?_, ?_, fun y hy => ?_, fun f hf => ?_, fun b j hb hb2 => ?_⟩
    · show wr i5 1630 q (nI (ofs S L (omk S L q))) 1630 k = _
      by_cases e : k = q
      · subst e; rw [wr_s]
      · rw [wr_k e]; exact k2 k (by omega)
    · show wr i5 1630 q (nI (ofs S L (omk S L q))) 1620 4 = _
      rw [wr_a (by decide)]; exact k3
    · show wr i5 1630 q (nI (ofs S L (omk S L q))) (1622 + 0) y = _
      rw [wr_a (by decide)]; exact k4 y hy
    · show wr i5 1630 q (nI (ofs S L (omk S L q))) 1629 f = _
      rw [wr_a (by decide)]; exact k5 f hf
    · show wr i5 1630 q (nI (ofs S L (omk S L q))) b j = _
      rw [wr_a (by omega)]; exact k6 b j hb hb2
  · rintro ⟨x, z, i5⟩ ⟨k0, k1, k2, k3, k4, k5, k6⟩
    dsimp only at k0 k1 k2 k3 k4 k5 k6 ⊢
    subst k0 k1
    rw [j_bc, Option.bind_some, hbc, if_neg (nI_nlt (Nat.le_refl _) (by omega))]
    exact tt_some ⟨k3, k2, k6⟩
  · show wr (wr i2 (1622 + 0) 0 (nI (og S L 0))) 1620 4 (nI (og S L 0)) 1629 f = _
    rw [wr_a (by decide), wr_a (by decide)]; exact e4 f hf
  · show wr (wr i2 (1622 + 0) 0 (nI (og S L 0))) 1620 4 (nI (og S L 0)) b j = _
    rw [wr_a (by omega), wr_a (by omega)]; exact e5 b j hb hb2
theorem v_order (hw : Wf S) (h : CV i 1001 S) (hL : WL L) (hl : CL t i (r 1001 16) L) (hlw : LwOK (r 1001 16)) (x : Int32) : Tt (f_Lc_order t r i x) (fun y => y.1 = spOrder S L x ∧ CQ (r 1001 16) i y.2) := by
  have hP := plc_8 hw.1 2
  obtain ⟨hbc, hb8⟩ := bc_n _ hP
  have hlw' := hlw
  unfold LwOK at hlw'
  unfold f_Lc_order spOrder
  refine tt_bind (v_planOrder hw h hL hl hlw) ?_
  rintro i2 ⟨e1, e2, e3⟩
  have h2 : CV i2 1001 S := h.congr (fun b k _ _ => e3 b k (by omega) (by omega)) hw.1
  by_cases hx : x = -1
  · rw [if_pos hx, if_pos hx, e1]
    exact tt_some ⟨rfl, e3.cq⟩
  · rw [if_neg hx, if_neg hx]
    by_cases hx0 : x < 0
    · rw [if_pos hx0, if_neg (fun q => by
        obtain ⟨f, hf, rfl⟩ := okx_of (by omega) q
        exact nI_pos (by omega) hx0)]
      exact tt_some ⟨rfl, e3.cq⟩
    · rw [if_neg hx0, v_placed hw.1 h2 2, Option.bind_some, j_bc, Option.bind_some, hbc]
      by_cases ho : okx x (bcn (plc S 2)) = true
      · rw [if_pos ho]
        obtain ⟨q, hq, rfl⟩ := okx_of (by omega) ho
        rw [if_pos (nI_lt hq (by omega)), grd_nI (show q < 8 by omega) (by decide), ix_nI (by omega), e2 q hq]
        exact tt_some ⟨rfl, e3.cq⟩
      · rw [if_neg ho, if_neg (fun q => ho (by unfold okx; rw [decide_eq_true hx0, decide_eq_true q]; rfl))]
        exact tt_some ⟨rfl, e3.cq⟩
/-! the reference -/
theorem m_soldNext (hw : Wf S) (h : MV i S) {m f : Nat} (hm : m < 256) (hf : f < nf S) (ht : i 1647 f = str S L f) {v : Nat} (hv : v ≤ 2304) (hT : i 1655 (setb m f) = nI v) : f_Mo_soldNext i (nI m) (nI f) = some (nI (gnv S L m f + v)) := by
  have h8 := hw.1.f8
  obtain ⟨-, ⟨z, z1, z2, ez⟩, -⟩ := hw.2.2.1 f hf
  have hg := gnv_le (L := L) (m := m) hw hf
  have o2 : f_Mo_of i (nI f) 2 = some (S 2 f 2) := m_of h (k := 2) (by omega) (by decide)
  have o1 : f_Mo_of i (nI f) 1 = some (S 2 f 1) := m_of h (k := 1) (by omega) (by decide)
  have key : Tt (f_Mo_soldNext i (nI m) (nI f)) (fun w => w = nI (gnv S L m f + v)) := by
    unfold f_Mo_soldNext
    rw [o2, Option.bind_some, j_bc, Option.bind_some, grd_nI (show f < 8 by omega) (by decide), ix_nI (by omega), ht, o1]
    refine tt_bind (P1 := fun w => w = nI (gnv S L m f)) ?_ ?_
    · unfold gnv
      by_cases c : 0 < S 2 f 2 - bc m * str S L f
      · rw [if_pos c, if_pos c, ez, nI_clamp (by omega)]; exact tt_some rfl
      · rw [if_neg c, if_neg c]; exact tt_some rfl
    · rintro w rfl
      rw [or_setb (by omega), grd_nI (show setb m f < 256 from setb_lt hm (by omega)) (by decide), ix_nI (Nat.lt_of_lt_of_le (setb_lt hm (by omega)) (by decide)), hT, nI_add]
      exact tt_some rfl
  obtain ⟨w, h1, rfl⟩ := key
  exact h1
theorem m_laysOrder (hw : Wf S) (h : MV i S) (hL : WL L) (hl : ML i L) : Tt (f_Mo_laysOrder i (nI (plc S 2))) (fun i' => (∀ f, f < nf S → i' 1647 f = str S L f) ∧ (∀ y, sbs y (plc S 2) → i' 1655 y = nI (og S L y)) ∧ ∀ b j, b ≠ 1646 → b ≠ 1647 → b ≠ 1655 → i' b j = i b j) := by
  have h8 := hw.1.f8
  have hP := plc_8 hw.1 2
  have hM : ∀ i' : MI, (∀ b j, b ≠ 1646 → b ≠ 1647 → b ≠ 1655 → i' b j = i b j) → MV i' S := fun i' he => h.congr (fun k => he 1639 k (by decide) (by decide) (by decide))
  have hMl : ∀ i' : MI, (∀ b j, b ≠ 1646 → b ≠ 1647 → b ≠ 1655 → i' b j = i b j) → ML i' L := fun i' he => hl.congr (fun k => he 1639 k (by decide) (by decide) (by decide))
  unfold f_Mo_laysOrder
  refine tt_bind (P1 := fun i' => (∀ f, f < nf S → i' 1647 f = str S L f) ∧ ∀ b j, b ≠ 1646 → b ≠ 1647 → b ≠ 1655 → i' b j = i b j)
    (tt_loop (fun q (s : Int32 × MI) => s.1 = nI q ∧ (∀ f, f < q → s.2 1647 f = str S L f) ∧ ∀ b j, b ≠ 1646 → b ≠ 1647 → b ≠ 1655 → s.2 b j = i b j) (nf S) (by omega) ?_ ?_ ⟨rfl, fun f hf => by omega, fun _ _ _ _ _ => rfl⟩) ?_
  · rintro q hq ⟨z, i2⟩ ⟨e1, e2, e3⟩
    dsimp only at e1 e2 e3 ⊢
    subst e1
    rw [m_fishes (hM i2 e3), hw.1.f, Option.bind_some, if_pos (nI_lt hq (by omega))]
    refine tt_bind (m_turns hw.1 (hM i2 e3) hL (hMl i2 e3) hq) ?_
    rintro ⟨v, i3⟩ ⟨g1, g2⟩
    dsimp only at g1 g2 ⊢
    subst g1
    rw [grd_nI (show q < 8 by omega) (by decide), ix_nI (by omega)]
    refine tt_bnd (tt_some ⟨nI_1 q, fun f hf => ?_, fun b j hb hb2 hb3 => ?_⟩)
    · show wr i3 1647 q (str S L q) 1647 f = _
      by_cases e : f = q
      · subst e; rw [wr_s]
      · rw [wr_k e, g2 _ _ (by decide)]; exact e2 f (by omega)
    · show wr i3 1647 q (str S L q) b j = _
      rw [wr_a hb2, g2 b j hb]; exact e3 b j hb hb2 hb3
  · rintro ⟨z, i2⟩ ⟨e1, e2, e3⟩
    dsimp only at e1 e2 e3 ⊢
    subst e1
    rw [m_fishes (hM i2 e3), hw.1.f, Option.bind_some, if_neg (nI_nlt (Nat.le_refl _) (by omega))]
    exact tt_some ⟨e2, e3⟩
  rintro i1 ⟨ht1, hf1⟩
  refine tt_bind (P1 := fun i' => (∀ f, f < nf S → i' 1647 f = str S L f) ∧ (∀ y, sbs y (plc S 2) → i' 1655 y = nI (og S L y)) ∧ ∀ b j, b ≠ 1646 → b ≠ 1647 → b ≠ 1655 → i' b j = i b j)
    (tt_loop (fun q (s : Int32 × MI) => s.1 = nI (plc S 2 + 1 - q) - 1 ∧ (∀ f, f < nf S → s.2 1647 f = str S L f) ∧ (∀ y, plc S 2 < y + q → sbs y (plc S 2) → s.2 1655 y = nI (og S L y)) ∧ ∀ b j, b ≠ 1646 → b ≠ 1647 → b ≠ 1655 → s.2 b j = i b j) (plc S 2 + 1) (by omega) ?_ ?_ ⟨?_, ht1, fun y hy hs => by have := sbs_le hs; omega, hf1⟩) (fun i' hi => tt_some hi)
  · rintro q hq ⟨z, i2⟩ ⟨e1, e2, e3, e4⟩
    dsimp only at e1 e2 e3 e4 ⊢
    have ez : z = nI (plc S 2 - q) := by rw [e1, show plc S 2 + 1 - q = (plc S 2 - q) + 1 by omega, nI_pred]
    subst ez
    have hm : plc S 2 - q < 256 := by omega
    have enx : nI (plc S 2 - q) + (-1 : Int32) = nI (plc S 2 + 1 - (q + 1)) - 1 := by rw [addm, show plc S 2 + 1 - (q + 1) = plc S 2 - q by omega]
    rw [if_neg (nI_pos (by omega)), dif_nI hm]
    by_cases c : sbs (plc S 2 - q) (plc S 2)
    · rw [if_pos (show nI (dif (plc S 2 - q) (plc S 2)) = 0 by rw [(dif_z hm).mpr c]; rfl)]
      refine tt_bind (P1 := fun i' => i' = wr i2 1655 (plc S 2 - q) (nI (og S L (plc S 2 - q)))) ?_ ?_
      · refine tt_bind (P1 := fun v => v = nI (og S L (plc S 2 - q)))
          (tt_loop (fun j (s : Int32 × Int32) => s = (nI (mxN (fun f => (dif (plc S 2) (plc S 2 - q)).testBit f) (fun f => gnv S L (plc S 2 - q) f + og S L (setb (plc S 2 - q) f)) j 0), nI j)) (nf S) (by omega) ?_ ?_ rfl) ?_
        · rintro j hj _ rfl
          dsimp only
          have hB : mxN (fun f => (dif (plc S 2) (plc S 2 - q)).testBit f) (fun f => gnv S L (plc S 2 - q) f + og S L (setb (plc S 2 - q) f)) j 0 ≤ 2313 := mxN_le (Nat.zero_le _) j (fun f hf _ => by
            have h1 := gnv_le (L := L) (m := plc S 2 - q) hw (show f < nf S by omega)
            have h2 := og_le (L := L) hw (setb (plc S 2 - q) f)
            omega)
          rw [m_fishes (hM i2 e4), hw.1.f, Option.bind_some, if_pos (nI_lt hj (by omega)), dif_nI hP, mo_hasm (dif_lt _ _) (by omega), Option.bind_some]
          refine tt_bind (P1 := fun v => v = nI (mxN (fun f => (dif (plc S 2) (plc S 2 - q)).testBit f) (fun f => gnv S L (plc S 2 - q) f + og S L (setb (plc S 2 - q) f)) (j + 1) 0)) ?_ (fun v hv => by subst hv; exact tt_some (by dsimp only [lpP]; rw [nI_1]))
          show Tt _ (fun v => v = nI (if (dif (plc S 2) (plc S 2 - q)).testBit j = true then max (mxN (fun f => (dif (plc S 2) (plc S 2 - q)).testBit f) (fun f => gnv S L (plc S 2 - q) f + og S L (setb (plc S 2 - q) f)) j 0) (gnv S L (plc S 2 - q) j + og S L (setb (plc S 2 - q) j)) else mxN (fun f => (dif (plc S 2) (plc S 2 - q)).testBit f) (fun f => gnv S L (plc S 2 - q) f + og S L (setb (plc S 2 - q) f)) j 0))
          by_cases c2 : (dif (plc S 2) (plc S 2 - q)).testBit j = true
          · have h1 := gnv_le (L := L) (m := plc S 2 - q) hw hj
            have h2 := og_le (L := L) hw (setb (plc S 2 - q) j)
            have c3 := c2
            rw [dif_t] at c3
            simp only [Bool.and_eq_true, decide_eq_true_eq, Bool.not_eq_true'] at c3
            have hgt := setb_gt c3.2.2
            rw [if_pos c2, if_pos c2, if_neg (show ¬ (1 : Int32) = 0 by decide), m_soldNext hw (hM i2 e4) hm hj (e2 j hj) h2 (e3 _ (by omega) (sbs_setb c c3.2.1)), Option.bind_some, j_max, Option.bind_some, jmax_nI (by omega) (by omega)]
            exact tt_some rfl
          · rw [if_neg c2, if_neg c2, if_pos (show (0 : Int32) = 0 from rfl)]
            exact tt_some rfl
        · rintro _ rfl
          dsimp only
          rw [m_fishes (hM i2 e4), hw.1.f, Option.bind_some, if_neg (nI_nlt (Nat.le_refl _) (by omega))]
          exact tt_some (by dsimp only [lpP]; rw [og_eq hm])
        · rintro v rfl
          rw [grd_nI hm (by decide), ix_nI (by omega)]
          exact tt_bnd (tt_some rfl)
      · rintro i3 rfl
        refine tt_some ⟨enx, fun f hf => ?_, fun y hy hs => ?_, fun b j hb hb2 hb3 => ?_⟩
        · show wr i2 1655 (plc S 2 - q) (nI (og S L (plc S 2 - q))) 1647 f = _
          rw [wr_a (by decide)]; exact e2 f hf
        · show wr i2 1655 (plc S 2 - q) (nI (og S L (plc S 2 - q))) 1655 y = _
          by_cases e : y = plc S 2 - q
          · rw [e, wr_s]
          · rw [wr_k e]; exact e3 y (by omega) hs
        · show wr i2 1655 (plc S 2 - q) (nI (og S L (plc S 2 - q))) b j = _
          rw [wr_a hb3]; exact e4 b j hb hb2 hb3
    · rw [if_neg (show ¬ nI (dif (plc S 2 - q) (plc S 2)) = 0 from fun e => c ((dif_z hm).mp ((nI_z (by have := dif_lt (plc S 2 - q) (plc S 2); omega)).mp e))), Option.bind_some]
      refine tt_some ⟨enx, e2, fun y hy hs => ?_, e4⟩
      by_cases e : y = plc S 2 - q
      · rw [e] at hs; exact absurd hs c
      · exact e3 y (by omega) hs
  · rintro ⟨z, i2⟩ ⟨e1, e2, e3, e4⟩
    dsimp only at e1 e2 e3 e4 ⊢
    subst e1
    rw [if_pos ((dn_neg2 (by omega)).mpr (by omega))]
    exact tt_some ⟨e2, fun y hs => e3 y (by omega) hs, e4⟩
  · show nI (plc S 2) = nI (plc S 2 + 1 - 0) - 1
    rw [Nat.sub_zero, nI_pred]
theorem m_order (hw : Wf S) (h : MV i S) (hL : WL L) (hl : ML i L) (x : Int32) : Tt (f_Mo_order i x) (MO i (0, spOrder S L x)) := by
  have h8 := hw.1.f8
  have hP := plc_8 hw.1 2
  obtain ⟨hbc, hb8⟩ := bc_n _ hP
  have h1 := mv_t h 0
  have l1 := ml_t hl 0
  unfold f_Mo_order spOrder
  refine tt_bnd ?_
  rw [m_allThat hw.1 h1, Option.bind_some]
  refine tt_bind (m_laysOrder hw h1 hL l1) ?_
  rintro i2 ⟨e2, e3, e4⟩
  have hM2 : MV i2 S := h1.congr (fun k => e4 1639 k (by decide) (by decide) (by decide))
  have hfq : fq (wr i 1638 0 0) i2 := ⟨fun b j hb => e4 b j (by omega) (by omega) (by omega), fun j _ => e4 1638 j (by decide) (by decide) (by decide)⟩
  have h00 : i2 1638 0 = 0 := (e4 1638 0 (by decide) (by decide) (by decide)).trans wr_s
  have hz : sbs 0 (plc S 2) := fun j hj => by rw [Nat.zero_testBit] at hj; exact absurd hj (by decide)
  by_cases hx : x = -1
  · rw [if_pos hx, if_pos hx, e3 0 hz]
    exact tt_some (mo_ok hfq h00 rfl)
  · rw [if_neg hx, if_neg hx, j_bc, Option.bind_some, hbc, mo_in (by omega), Option.bind_some]
    by_cases ho : okx x (bcn (plc S 2)) = true
    · rw [if_pos ho, if_pos ho, if_neg (show ¬ (1 : Int32) = 0 by decide)]
      obtain ⟨n, hn, rfl⟩ := okx_of (by omega) ho
      refine tt_bind (P1 := fun v => v = nI (ofs S L (omk S L n)))
        (tt_loop (fun q (s : Int32 × Int32 × Int32) => s.1 = nI (omk S L q) ∧ (q = n + 1 → s.2.1 = nI (ofs S L (omk S L n))) ∧ s.2.2 = nI q) (n + 1) (by omega) ?_ ?_ ⟨rfl, fun q => by omega, rfl⟩) ?_
      · rintro q hq ⟨x3, x4, x5⟩ ⟨k1, k2, k3⟩
        dsimp only at k1 k2 k3 ⊢
        subst k1 k3
        obtain ⟨o1, o2, o3⟩ := omk_sp (L := L) hw q (by omega)
        have hne : omk S L q ≠ plc S 2 := fun e => by rw [e] at o3; omega
        obtain ⟨p1, p2, p3⟩ := ofs_sp (L := L) hw o1 o2 hne
        rw [if_neg (nI_nlt (by omega) (by omega))]
        refine tt_bind (P1 := fun v => v = nI (ofs S L (omk S L q)))
          (tt_loop (fun j (s : Int32) => s = nI j ∧ j ≤ ofs S L (omk S L q)) (nf S) (by omega) ?_ ?_ ⟨rfl, Nat.zero_le _⟩) ?_
        · rintro j hj _ ⟨rfl, hle⟩
          rw [dif_nI hP, mo_hasm (dif_lt _ _) (by omega), Option.bind_some]
          by_cases c : (dif (plc S 2) (omk S L q)).testBit j = true
          · have h1 := gnv_le (L := L) (m := omk S L q) hw hj
            have h2 := og_le (L := L) hw (setb (omk S L q) j)
            have h3 := og_le (L := L) hw (omk S L q)
            have c3 := c
            rw [dif_t] at c3
            simp only [Bool.and_eq_true] at c3
            rw [if_pos c, if_neg (show ¬ (1 : Int32) = 0 by decide), m_soldNext hw hM2 o1 hj (e2 j hj) h2 (e3 _ (sbs_setb o2 c3.2.1)), Option.bind_some, grd_nI o1 (by decide), ix_nI (by omega), e3 _ o2]
            have hiff : nI (gnv S L (omk S L q) j + og S L (setb (omk S L q) j)) = nI (og S L (omk S L q)) ↔ opr S L (omk S L q) j = true := by
              rw [nI_inj (by omega) (by omega)]
              unfold opr
              rw [c, Bool.true_and, decide_eq_true_eq]
            by_cases c2 : opr S L (omk S L q) j = true
            · rw [if_pos (hiff.mpr c2)]
              have : j = ofs S L (omk S L q) := by
                by_cases q2 : j < ofs S L (omk S L q)
                · rw [p3 j q2] at c2; exact absurd c2 (by decide)
                · omega
              exact tt_some (by dsimp only [lpP]; rw [← this])
            · rw [if_neg (fun q => c2 (hiff.mp q))]
              have : j ≠ ofs S L (omk S L q) := fun q2 => c2 (by rw [q2]; exact p2)
              exact tt_some ⟨nI_1 j, by omega⟩
          · rw [if_neg c, if_pos (show (0 : Int32) = 0 from rfl)]
            have : j ≠ ofs S L (omk S L q) := fun q2 => c (by
              rw [q2]
              unfold opr at p2
              rw [Bool.and_eq_true] at p2
              exact p2.1)
            exact tt_some ⟨nI_1 j, by omega⟩
        · rintro _ ⟨rfl, hle⟩
          omega
        · rintro v rfl
          exact tt_some ⟨or_setb (by omega), fun e => by have : q = n := by omega
                                                         subst this; rfl, nI_1 q⟩
      · rintro ⟨x3, x4, x5⟩ ⟨k1, k2, k3⟩
        dsimp only at k1 k2 k3 ⊢
        subst k3
        rw [if_pos (nI_lt (by omega) (by omega))]
        exact tt_some (k2 rfl)
      · rintro v rfl
        rw [ix_nI (by omega)]
        exact tt_some (mo_ok hfq h00 rfl)
    · rw [if_neg ho, if_neg ho, if_pos (show (0 : Int32) = 0 from rfl)]
      exact tt_some (mo_ok hfq h00 rfl)
end ORDER
