/-! ===== whose: words put to the dead ===== -/
def sd (S : SS) (d f : Nat) : Bool := (ix (S 5 d 0)).testBit (ix (S 2 f 0))
def cnt8 (m n : Nat) : Nat := fo (fun f x => if m.testBit f = true then x + 1 else x) n 0
theorem bcn_cnt : ∀ m, m < 256 → bcn m = cnt8 m 8 := by decide +kernel
theorem cnt8_add {m T : Nat} (h : sbs T m) : ∀ n, n ≤ 8 → cnt8 m n = cnt8 T n + cnt8 (dif m T) n
  | 0, _ => rfl
  | n + 1, hn => by
    have ih := cnt8_add h n (by omega)
    have e : ∀ k, cnt8 k (n + 1) = if k.testBit n = true then cnt8 k n + 1 else cnt8 k n := fun _ => rfl
    have hd := dif_t m T n
    rw [decide_eq_true (show n < 8 by omega), Bool.true_and] at hd
    rw [e, e, e, ih, hd]
    cases cT : T.testBit n
    · cases cm : m.testBit n
      · simp
      · simp; omega
    · rw [h n cT]
      simp; omega
theorem bcn_add {m T : Nat} (hm : m < 256) (h : sbs T m) : bcn m = bcn T + bcn (dif m T) := by
  have hT : T < 256 := Nat.lt_of_le_of_lt (sbs_le h) hm
  rw [bcn_cnt m hm, bcn_cnt T hT, bcn_cnt _ (dif_lt _ _)]
  exact cnt8_add h 8 (Nat.le_refl 8)
section TELL
variable {S : SS} {cap : Nat → Nat}
/-- the dead d can say all of T -/
def can (S : SS) (cap : Nat → Nat) (d T : Nat) : Prop := (∀ f, T.testBit f = true → sd S d f = true) ∧ ssz S T (nf S) ≤ cap d
def prt (m : Nat) (w : Nat → Nat) (d : Nat) : Nat := bits (fun f => m.testBit f && decide (w f = d)) 8
/-- all of m can be told by the dead in D -/
def tl (S : SS) (cap : Nat → Nat) (D : Nat → Prop) (m : Nat) : Prop := ∃ w : Nat → Nat, (∀ f, m.testBit f = true → D (w f) ∧ sd S (w f) f = true) ∧ ∀ d, D d → ssz S (prt m w d) (nf S) ≤ cap d
theorem prt_t {m : Nat} {w : Nat → Nat} {d f : Nat} : (prt m w d).testBit f = (decide (f < 8) && (m.testBit f && decide (w f = d))) := bits_test _ 8 f
theorem prt_lt (m : Nat) (w : Nat → Nat) (d : Nat) : prt m w d < 256 := bits_256 _ (by decide)
theorem ssz_0 : ∀ n, ssz S 0 n = 0
  | 0 => rfl
  | n + 1 => by
    have e : ssz S 0 (n + 1) = if Nat.testBit 0 n = true then ssz S 0 n + (S 2 n 1).toNatClampNeg else ssz S 0 n := rfl
    rw [e, Nat.zero_testBit, if_neg (by decide), ssz_0 n]
theorem tl_0 (D : Nat → Prop) : tl S cap D 0 := ⟨fun _ => 0, fun f hf => by rw [Nat.zero_testBit] at hf; exact absurd hf (by decide), fun d _ => by
  have : prt 0 (fun _ => 0) d = 0 := m_ext (prt_lt _ _ _) (by decide) (fun j hj => by rw [prt_t, Nat.zero_testBit, Bool.false_and, Bool.and_false])
  rw [this, ssz_0]; exact Nat.zero_le _⟩
theorem tl_split {D D' : Nat → Prop} {e m : Nat} (hm : m < 256) (he : D e) (hD : ∀ d, D' d ↔ (D d ∧ d ≠ e)) : tl S cap D m ↔ ∃ T, sbs T m ∧ can S cap e T ∧ tl S cap D' (dif m T) := by
  constructor
  · rintro ⟨w, h1, h2⟩
    have hsub : sbs (prt m w e) m := fun j hj => by
      rw [prt_t] at hj
      simp only [Bool.and_eq_true] at hj
      exact hj.2.1
    refine ⟨prt m w e, hsub, ⟨fun f hf => ?_, h2 e he⟩, w, fun f hf => ?_, fun d hd => ?_⟩
    · have hf' := hf
      rw [prt_t] at hf'
      simp only [Bool.and_eq_true, decide_eq_true_eq] at hf'
      have := (h1 f hf'.2.1).2
      rw [hf'.2.2] at this
      exact this
    · rw [dif_t, prt_t] at hf
      simp only [Bool.and_eq_true, decide_eq_true_eq, Bool.not_eq_true'] at hf
      obtain ⟨a1, a2⟩ := h1 f hf.2.1
      refine ⟨(hD (w f)).mpr ⟨a1, fun q => ?_⟩, a2⟩
      have := hf.2.2
      rw [decide_eq_true hf.1, hf.2.1, decide_eq_true q] at this
      exact absurd this (by decide)
    · obtain ⟨d1, d2⟩ := (hD d).mp hd
      have : prt (dif m (prt m w e)) w d = prt m w d := m_ext (prt_lt _ _ _) (prt_lt _ _ _) (fun j hj => by
        rw [prt_t, prt_t, dif_t, prt_t, decide_eq_true hj]
        by_cases q : w j = d
        · rw [decide_eq_true q, decide_eq_false (fun q2 : w j = e => d2 (q.symm.trans q2))]
          cases m.testBit j <;> rfl
        · simp only [decide_eq_false q, Bool.and_false])
      rw [this]
      exact h2 d d1
  · rintro ⟨T, hs, ⟨c1, c2⟩, w, h1, h2⟩
    have hT : T < 256 := Nat.lt_of_le_of_lt (sbs_le hs) hm
    refine ⟨fun f => if T.testBit f = true then e else w f, fun f hf => ?_, fun d hd => ?_⟩
    · by_cases ct : T.testBit f = true
      · show D (if T.testBit f = true then e else w f) ∧ sd S (if T.testBit f = true then e else w f) f = true
        rw [if_pos ct]
        exact ⟨he, c1 f ct⟩
      · show D (if T.testBit f = true then e else w f) ∧ sd S (if T.testBit f = true then e else w f) f = true
        rw [if_neg ct]
        have hf8 : f < 8 := by
          rcases Nat.lt_or_ge f 8 with q | q
          · exact q
          · rw [tb_big hm q] at hf; exact absurd hf (by decide)
        obtain ⟨a1, a2⟩ := h1 f (by rw [dif_t, decide_eq_true hf8, hf, Bool.eq_false_iff.mpr ct]; rfl)
        exact ⟨((hD _).mp a1).1, a2⟩
    · by_cases q : d = e
      · have : prt m (fun f => if T.testBit f = true then e else w f) d = T := m_ext (prt_lt _ _ _) hT (fun j hj => by
          rw [prt_t, decide_eq_true hj, Bool.true_and]
          by_cases ct : T.testBit j = true
          · rw [if_pos ct, hs j ct, decide_eq_true q.symm, ct]; rfl
          · rw [if_neg ct, Bool.eq_false_iff.mpr ct]
            cases cm : m.testBit j
            · rfl
            · obtain ⟨a1, -⟩ := h1 j (by rw [dif_t, decide_eq_true hj, cm, Bool.eq_false_iff.mpr ct]; rfl)
              rw [decide_eq_false (fun q2 => ((hD _).mp a1).2 (q2.trans q))]; rfl)
        rw [this, q]; exact c2
      · have : prt m (fun f => if T.testBit f = true then e else w f) d = prt (dif m T) w d := m_ext (prt_lt _ _ _) (prt_lt _ _ _) (fun j hj => by
          rw [prt_t, prt_t, dif_t, decide_eq_true hj]
          by_cases ct : T.testBit j = true
          · rw [if_pos ct, decide_eq_false (fun q2 : e = d => q q2.symm), ct]
            simp
          · rw [if_neg ct, Bool.eq_false_iff.mpr ct]
            simp)
        rw [this]
        exact h2 d ((hD d).mpr ⟨hd, q⟩)
noncomputable def canB (S : SS) (cap : Nat → Nat) (d T : Nat) : Bool := @decide (can S cap d T) (Classical.propDecidable _)
theorem canB_iff {d T : Nat} : canB S cap d T = true ↔ can S cap d T := by
  unfold canB
  exact @decide_eq_true_iff _ (Classical.propDecidable _)
/-- the most that the last k of the dead can tell of m -/
noncomputable def rb (S : SS) (cap : Nat → Nat) : Nat → Nat → Nat
  | 0, _ => 0
  | k + 1, m => mxN (fun T => decide (T &&& m = T) && canB S cap (nd S - (k + 1)) T) (fun T => bcn T + rb S cap k (dif m T)) 256 0
noncomputable def mst (S : SS) (cap : Nat → Nat) (A : Nat) : Nat := rb S cap (nd S) A
def suf (S : SS) (k d : Nat) : Prop := nd S - k ≤ d ∧ d < nd S
theorem suf_s {k : Nat} (hk : k < nd S) : suf S (k + 1) (nd S - (k + 1)) ∧ ∀ d, suf S k d ↔ (suf S (k + 1) d ∧ d ≠ nd S - (k + 1)) := by
  unfold suf
  exact ⟨by omega, fun d => by omega⟩
theorem rb_s {k m : Nat} : rb S cap (k + 1) m = mxN (fun T => decide (T &&& m = T) && canB S cap (nd S - (k + 1)) T) (fun T => bcn T + rb S cap k (dif m T)) 256 0 := rfl
theorem dif_dif {m T : Nat} (h : sbs T m) (hm : m < 256) : dif (T ||| dif m T) T = dif m T := m_ext (dif_lt _ _) (dif_lt _ _) (fun j hj => by
  rw [dif_t, Nat.testBit_or, dif_t, decide_eq_true hj]
  cases T.testBit j <;> cases m.testBit j <;> rfl)
theorem rb_ge : ∀ k m m', k ≤ nd S → m < 256 → sbs m' m → tl S cap (suf S k) m' → bcn m' ≤ rb S cap k m
  | 0, m, m', _, hm, hs, h => by
    obtain ⟨w, h1, -⟩ := h
    have : m' = 0 := m_ext (Nat.lt_of_le_of_lt (sbs_le hs) hm) (by decide) (fun j hj => by
      rw [Nat.zero_testBit]
      cases c : m'.testBit j
      · rfl
      · have := (h1 j c).1
        unfold suf at this
        omega)
    rw [this, bcn_0]; exact Nat.zero_le _
  | k + 1, m, m', hk, hm, hs, h => by
    have hm' : m' < 256 := Nat.lt_of_le_of_lt (sbs_le hs) hm
    obtain ⟨s1, s2⟩ := suf_s (S := S) (show k < nd S by omega)
    obtain ⟨T, t1, t2, t3⟩ := (tl_split hm' s1 s2).mp h
    have hT : T < 256 := Nat.lt_of_le_of_lt (sbs_le t1) hm'
    have hsub : sbs (dif m' T) (dif m T) := fun j hj => by
      rw [dif_t] at hj ⊢
      simp only [Bool.and_eq_true] at hj ⊢
      exact ⟨hj.1, hs j hj.2.1, hj.2.2⟩
    have ih := rb_ge k (dif m T) (dif m' T) (by omega) (dif_lt _ _) hsub t3
    have hp : (decide (T &&& m = T) && canB S cap (nd S - (k + 1)) T) = true := by
      rw [decide_eq_true (sbs_and.mp (fun j hj => hs j (t1 j hj))), canB_iff.mpr t2]; rfl
    have hge := mxN_ge (p := fun T => decide (T &&& m = T) && canB S cap (nd S - (k + 1)) T) (v := fun T => bcn T + rb S cap k (dif m T)) (x0 := 0) 256 T hT hp
    have hge' : bcn T + rb S cap k (dif m T) ≤ rb S cap (k + 1) m := hge
    rw [bcn_add hm' t1]
    omega
theorem rb_at : ∀ k m, k ≤ nd S → m < 256 → ∃ m', sbs m' m ∧ tl S cap (suf S k) m' ∧ bcn m' = rb S cap k m
  | 0, m, _, _ => ⟨0, fun j hj => by rw [Nat.zero_testBit] at hj; exact absurd hj (by decide), tl_0 _, bcn_0⟩
  | k + 1, m, hk, hm => by
    obtain ⟨s1, s2⟩ := suf_s (S := S) (show k < nd S by omega)
    rcases mxN_at (p := fun T => decide (T &&& m = T) && canB S cap (nd S - (k + 1)) T) (v := fun T => bcn T + rb S cap k (dif m T)) (x0 := 0) 256 with h | ⟨T, h1, h2, h3⟩
    · exact ⟨0, fun j hj => by rw [Nat.zero_testBit] at hj; exact absurd hj (by decide), tl_0 _, by rw [rb_s, h, bcn_0]⟩
    · simp only [Bool.and_eq_true, decide_eq_true_eq] at h2
      have hTm := sbs_and.mpr h2.1
      obtain ⟨m'', g1, g2, g3⟩ := rb_at k (dif m T) (by omega) (dif_lt _ _)
      have hm'' : m'' < 256 := Nat.lt_of_le_of_lt (sbs_le g1) (dif_lt _ _)
      have hor : T ||| m'' < 256 := Nat.or_lt_two_pow (n := 8) h1 hm''
      have hTs : sbs T (T ||| m'') := fun j hj => by rw [Nat.testBit_or, hj]; rfl
      have hd : dif (T ||| m'') T = m'' := m_ext (dif_lt _ _) hm'' (fun j hj => by
        rw [dif_t, Nat.testBit_or, decide_eq_true hj]
        cases cT : T.testBit j
        · cases m''.testBit j <;> rfl
        · cases c : m''.testBit j
          · rfl
          · have := g1 j c
            rw [dif_t, cT] at this
            simp at this)
      refine ⟨T ||| m'', fun j hj => ?_, (tl_split hor s1 s2).mpr ⟨T, hTs, canB_iff.mp h2.2, by rw [hd]; exact g2⟩, ?_⟩
      · rw [Nat.testBit_or, Bool.or_eq_true] at hj
        rcases hj with q | q
        · exact hTm j q
        · have := g1 j q
          rw [dif_t] at this
          simp only [Bool.and_eq_true] at this
          exact this.2.1
      · rw [bcn_add hor hTs, hd, g3, rb_s]
        exact h3
theorem rb_le8 {k m : Nat} (hk : k ≤ nd S) (hm : m < 256) : rb S cap k m ≤ 8 := by
  obtain ⟨m', h1, -, h3⟩ := rb_at (S := S) (cap := cap) k m hk hm
  rw [← h3]
  exact (bc_n m' (Nat.lt_of_le_of_lt (sbs_le h1) hm)).2
/-! the choices, one fish after another -/
def cup (S : SS) (cap : Nat → Nat) (d f : Nat) : Nat → Nat := fun e => if e = d then cap d - (S 2 f 1).toNatClampNeg else cap e
noncomputable def wpr (S : SS) (cap : Nat → Nat) (m need f d : Nat) : Bool := sd S d f && (decide ((S 2 f 1).toNatClampNeg ≤ cap d) && decide (1 + mst S (cup S cap d f) m = need))
noncomputable def wfd (S : SS) (cap : Nat → Nat) (m need f : Nat) : Nat := ffs (wpr S cap m need f) (nd S) 0
abbrev WS : Type := (Nat → Nat) × Nat × Nat × Int32
noncomputable def wsp (S : SS) (f : Nat) (s : WS) : WS := if s.2.1.testBit f = true then (if wfd S s.1 (delb s.2.1 f) s.2.2.1 f < nd S then (cup S s.1 (wfd S s.1 (delb s.2.1 f) s.2.2.1 f) f, delb s.2.1 f, s.2.2.1 - 1, nI (wfd S s.1 (delb s.2.1 f) s.2.2.1 f)) else (s.1, delb s.2.1 f, s.2.2.1, -1)) else (s.1, s.2.1, s.2.2.1, -1)
def cap0 (S : SS) (d : Nat) : Nat := ix (S 5 d 1)
def fre (S : SS) : Nat := dif (2 ^ nf S - 1) (plc S 3)
noncomputable def whs (S : SS) (q : Nat) : WS := fo (wsp S) q (cap0 S, fre S, mst S (cap0 S) (fre S), -1)
noncomputable def spWhose (S : SS) (x : Int32) : Int32 × Int32 := if x = -1 then (0, nI (mst S (cap0 S) (fre S))) else if okx x (nf S) = true then (0, (whs S (ix x + 1)).2.2.2) else (1, 0)
theorem fre_lt : fre S < 2 ^ nf S := by
  have h1 : fre S < 2 ^ nf S - 1 + 1 := Nat.lt_succ_of_le (sbs_le (fun j hj => by
    unfold fre at hj
    rw [dif_t] at hj
    simp only [Bool.and_eq_true] at hj
    exact hj.2.1))
  have := Nat.two_pow_pos (nf S)
  omega
theorem whs_sp (hw : Wf S) : ∀ q, q ≤ nf S → sbs (whs S q).2.1 (fre S) ∧ (∀ d, (whs S q).1 d ≤ cap0 S d) ∧ (whs S q).2.2.1 ≤ 8 ∧ ∀ f, q ≤ f → f < 8 → (whs S q).2.1.testBit f = (fre S).testBit f
  | 0, _ => ⟨fun _ h => h, fun _ => Nat.le_refl _, rb_le8 (Nat.le_refl _) (dif_lt _ _), fun _ _ _ => rfl⟩
  | q + 1, hq => by
    obtain ⟨h1, h2, h3, h4⟩ := whs_sp hw q (by omega)
    have hsub : sbs (delb (whs S q).2.1 q) (fre S) := fun j hj => h1 j (delb_bit hj).1
    have hbt : ∀ f, q + 1 ≤ f → f < 8 → (delb (whs S q).2.1 q).testBit f = (fre S).testBit f := fun f hf hf8 => by
      rw [delb_t, decide_eq_true hf8, decide_eq_false (by omega : ¬ q = f), h4 f (by omega) hf8, Bool.not_false, Bool.and_true, Bool.true_and]
    show sbs (wsp S q (whs S q)).2.1 (fre S) ∧ (∀ d, (wsp S q (whs S q)).1 d ≤ cap0 S d) ∧ (wsp S q (whs S q)).2.2.1 ≤ 8 ∧ ∀ f, q + 1 ≤ f → f < 8 → (wsp S q (whs S q)).2.1.testBit f = (fre S).testBit f
    unfold wsp
    by_cases c : (whs S q).2.1.testBit q = true
    · rw [if_pos c]
      by_cases c2 : wfd S (whs S q).1 (delb (whs S q).2.1 q) (whs S q).2.2.1 q < nd S
      · rw [if_pos c2]
        refine ⟨hsub, fun d => ?_, by show (whs S q).2.2.1 - 1 ≤ 8; omega, hbt⟩
        show cup S (whs S q).1 _ q d ≤ cap0 S d
        have := h2 d
        unfold cup
        split
        · rename_i e; rw [← e]; omega
        · exact this
      · rw [if_neg c2]
        exact ⟨hsub, h2, h3, hbt⟩
    · rw [if_neg c]
      exact ⟨h1, h2, h3, fun f hf hf8 => h4 f (by omega) hf8⟩
theorem cap0_le (hw : Wf S) {d : Nat} (hd : d < nd S) : cap0 S d ≤ 99 ∧ S 5 d 1 = nI (cap0 S d) := by
  obtain ⟨-, z, hz, e⟩ := hw.2.2.2.2.2.1 d hd
  unfold cap0
  rw [e, ix_nI (by omega)]
  exact ⟨hz, rfl⟩
end TELL
