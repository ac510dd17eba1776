/-! ===== a day, told on the state alone ===== -/
def fOK (S : SS) (n f : Nat) : Prop := (∃ k, k < 4 ∧ S 2 f 0 = nI k) ∧ (∃ z, 1 ≤ z ∧ z ≤ 9 ∧ S 2 f 1 = nI z) ∧ (∃ z, z ≤ 99 ∧ S 2 f 2 = nI z) ∧ ((S 2 f 3 = 0 ∧ ∃ c, c < 25 ∧ S 2 f 4 = nI c) ∨ (S 2 f 3 = 1 ∧ ∃ b, b < n ∧ S 2 f 4 = nI b) ∨ (S 2 f 3 = 2 ∧ S 2 f 4 = 0) ∨ (S 2 f 3 = 3 ∧ S 2 f 4 = 0))
def bOK (S : SS) (b : Nat) : Prop := (∃ c, c < 25 ∧ S 3 b 0 = nI c) ∧ (S 3 b 1 = -1 ∨ ∃ c, c < 25 ∧ S 3 b 1 = nI c) ∧ (∃ z, 1 ≤ z ∧ z ≤ 9 ∧ S 3 b 2 = nI z)
def yOK (S : SS) (y : Nat) : Prop := (∃ k, k < 4 ∧ S 4 y 0 = nI k) ∧ (∃ z, z ≤ 999 ∧ S 4 y 1 = nI z) ∧ (∃ z, z ≤ 99 ∧ S 4 y 2 = nI z) ∧ (∃ z, z ≤ 100 ∧ S 4 y 3 = nI z)
section WFK
variable {S S' : SS}
theorem Wf.fish (hw : Wf S) (f : Nat) (hS : ∀ x y z, ¬ (x = 2 ∧ y = f) → S' x y z = S x y z) (hn : f < nf S → fOK S' (nb S) f) : Wf S' := by
  obtain ⟨h1, h2, h3, h4, h5, h6, h7, h8, h9, h10⟩ := hw
  have e0 : ∀ z, S' 0 0 z = S 0 0 z := fun z => hS 0 0 z (by omega)
  have q0 : nf S' = nf S := by unfold nf; rw [e0]
  have q1 : nb S' = nb S := by unfold nb; rw [e0]
  have q2 : ny S' = ny S := by unfold ny; rw [e0]
  have q3 : nd S' = nd S := by unfold nd; rw [e0]
  refine ⟨h1.keep (e0 0) (e0 1) (e0 2) (e0 3) (e0 9), fun c hc => ?_, fun g hg => ?_, fun b hb => ?_, fun y hy => ?_, fun d hd => ?_, ?_, ?_, ?_, ?_⟩
  · rw [hS _ _ _ (by omega)]; exact h2 c hc
  · rw [q0] at hg
    rw [q1]
    by_cases e : g = f
    · subst e; exact hn hg
    · simp only [hS 2 g _ (by omega)]; exact h3 g hg
  · rw [q1] at hb
    simp only [hS 3 b _ (by omega)]; exact h4 b hb
  · rw [q2] at hy
    simp only [hS 4 y _ (by omega)]; exact h5 y hy
  · rw [q3] at hd
    simp only [hS 5 d _ (by omega)]; exact h6 d hd
  · rw [e0]; exact h7
  · rw [e0]; exact h8
  · rw [e0]; exact h9
  · rw [e0]; exact h10
theorem Wf.boat (hw : Wf S) (f : Nat) (hS : ∀ x y z, ¬ (x = 3 ∧ y = f) → S' x y z = S x y z) (hn : f < nb S → bOK S' f) : Wf S' := by
  obtain ⟨h1, h2, h3, h4, h5, h6, h7, h8, h9, h10⟩ := hw
  have e0 : ∀ z, S' 0 0 z = S 0 0 z := fun z => hS 0 0 z (by omega)
  have q0 : nf S' = nf S := by unfold nf; rw [e0]
  have q1 : nb S' = nb S := by unfold nb; rw [e0]
  have q2 : ny S' = ny S := by unfold ny; rw [e0]
  have q3 : nd S' = nd S := by unfold nd; rw [e0]
  refine ⟨h1.keep (e0 0) (e0 1) (e0 2) (e0 3) (e0 9), fun c hc => ?_, fun g hg => ?_, fun b hb => ?_, fun y hy => ?_, fun d hd => ?_, ?_, ?_, ?_, ?_⟩
  · rw [hS _ _ _ (by omega)]; exact h2 c hc
  · rw [q0] at hg
    rw [q1]
    simp only [hS 2 g _ (by omega)]; exact h3 g hg
  · rw [q1] at hb
    by_cases e : b = f
    · subst e; exact hn hb
    · simp only [hS 3 b _ (by omega)]; exact h4 b hb
  · rw [q2] at hy
    simp only [hS 4 y _ (by omega)]; exact h5 y hy
  · rw [q3] at hd
    simp only [hS 5 d _ (by omega)]; exact h6 d hd
  · rw [e0]; exact h7
  · rw [e0]; exact h8
  · rw [e0]; exact h9
  · rw [e0]; exact h10
theorem Wf.buyer (hw : Wf S) (f : Nat) (hS : ∀ x y z, ¬ (x = 4 ∧ y = f) → S' x y z = S x y z) (hn : f < ny S → yOK S' f) : Wf S' := by
  obtain ⟨h1, h2, h3, h4, h5, h6, h7, h8, h9, h10⟩ := hw
  have e0 : ∀ z, S' 0 0 z = S 0 0 z := fun z => hS 0 0 z (by omega)
  have q0 : nf S' = nf S := by unfold nf; rw [e0]
  have q1 : nb S' = nb S := by unfold nb; rw [e0]
  have q2 : ny S' = ny S := by unfold ny; rw [e0]
  have q3 : nd S' = nd S := by unfold nd; rw [e0]
  refine ⟨h1.keep (e0 0) (e0 1) (e0 2) (e0 3) (e0 9), fun c hc => ?_, fun g hg => ?_, fun b hb => ?_, fun y hy => ?_, fun d hd => ?_, ?_, ?_, ?_, ?_⟩
  · rw [hS _ _ _ (by omega)]; exact h2 c hc
  · rw [q0] at hg
    rw [q1]
    simp only [hS 2 g _ (by omega)]; exact h3 g hg
  · rw [q1] at hb
    simp only [hS 3 b _ (by omega)]; exact h4 b hb
  · rw [q2] at hy
    by_cases e : y = f
    · subst e; exact hn hy
    · simp only [hS 4 y _ (by omega)]; exact h5 y hy
  · rw [q3] at hd
    simp only [hS 5 d _ (by omega)]; exact h6 d hd
  · rw [e0]; exact h7
  · rw [e0]; exact h8
  · rw [e0]; exact h9
  · rw [e0]; exact h10
/-- scalars, rows of the log: told by what they keep -/
theorem Wf.scal (hw : Wf S) (hc : Cnt S') (h0 : nf S' = nf S) (h1' : nb S' = nb S) (h2' : ny S' = ny S) (h3' : nd S' = nd S) (hS : ∀ x y z, 1 ≤ x → x ≤ 5 → S' x y z = S x y z) (k6 : ∃ z, z ≤ 999 ∧ S' 0 0 6 = nI z) (k7 : ∃ z, z ≤ 9999 ∧ S' 0 0 7 = nI z) (k8 : ∃ z, z ≤ 9999 ∧ S' 0 0 8 = nI z) (k4 : ∃ z, z ≤ 12 ∧ S' 0 0 4 = nI z) : Wf S' := by
  obtain ⟨h1, h2, h3, h4, h5, h6, h7, h8, h9, h10⟩ := hw
  refine ⟨hc, fun c hc => ?_, fun g hg => ?_, fun b hb => ?_, fun y hy => ?_, fun d hd => ?_, k6, k7, k8, k4⟩
  · rw [hS _ _ _ (by omega) (by omega)]; exact h2 c hc
  · rw [h0] at hg
    rw [h1']
    simp only [hS 2 g _ (by omega) (by omega)]; exact h3 g hg
  · rw [h1'] at hb
    simp only [hS 3 b _ (by omega) (by omega)]; exact h4 b hb
  · rw [h2'] at hy
    simp only [hS 4 y _ (by omega) (by omega)]; exact h5 y hy
  · rw [h3'] at hd
    simp only [hS 5 d _ (by omega) (by omega)]; exact h6 d hd
theorem Wf.tld (hw : Wf S) {fi what who fresh : Int32} : Wf (tld S fi what who fresh) := by
  have hc := hw.1
  refine hw.scal (tld_cnt hc) ?_ ?_ ?_ ?_ (fun x y z hx hx5 => tld_o (by omega) (by omega)) ?_ ?_ ?_ ?_
  · unfold nf; rw [tld_o (by decide) (by decide)]
  · unfold nb; rw [tld_o (by decide) (by decide)]
  · unfold ny; rw [tld_o (by decide) (by decide)]
  · unfold nd; rw [tld_o (by decide) (by decide)]
  · rw [tld_o (by decide) (by decide)]; exact hw.2.2.2.2.2.2.1
  · rw [tld_o (by decide) (by decide)]; exact hw.2.2.2.2.2.2.2.1
  · rw [tld_o (by decide) (by decide)]; exact hw.2.2.2.2.2.2.2.2.1
  · rw [tld_o (by decide) (by decide)]; exact hw.2.2.2.2.2.2.2.2.2
theorem Wf.sfp (hw : Wf S) {f : Nat} {st pl : Int32} (h : (st = 0 ∧ ∃ c, c < 25 ∧ pl = nI c) ∨ (st = 1 ∧ ∃ b, b < nb S ∧ pl = nI b) ∨ (st = 2 ∧ pl = 0) ∨ (st = 3 ∧ pl = 0)) : Wf (sfp S f st pl) := by
  refine hw.fish f (fun x y z hn => ?_) (fun hf => ?_)
  · show su (su S 2 f 3 st) 2 f 4 pl x y z = S x y z
    rw [su_o (by omega), su_o (by omega)]
  · obtain ⟨k0, k1, k2, -⟩ := hw.2.2.1 f hf
    have so : ∀ z, z < 3 → su (su S 2 f 3 st) 2 f 4 pl 2 f z = S 2 f z := fun z hz => by rw [su_o (by omega), su_o (by omega)]
    have s3 : su (su S 2 f 3 st) 2 f 4 pl 2 f 3 = st := by rw [su_o (by omega), su_s]
    have s4 : su (su S 2 f 3 st) 2 f 4 pl 2 f 4 = pl := su_s
    show fOK (su (su S 2 f 3 st) 2 f 4 pl) (nb S) f
    unfold fOK
    rw [so 0 (by decide), so 1 (by decide), so 2 (by decide), s3, s4]
    exact ⟨k0, k1, k2, h⟩
theorem Wf.one (hw : Wf S) {z : Nat} {v : Int32} (hz : (z = 6 ∧ ∃ k, k ≤ 999 ∧ v = nI k) ∨ (z = 7 ∧ ∃ k, k ≤ 9999 ∧ v = nI k) ∨ (z = 8 ∧ ∃ k, k ≤ 9999 ∧ v = nI k) ∨ (z = 4 ∧ ∃ k, k ≤ 12 ∧ v = nI k) ∨ z = 10) : Wf (su S 0 0 z v) := by
  have hzn : z ≠ 0 ∧ z ≠ 1 ∧ z ≠ 2 ∧ z ≠ 3 ∧ z ≠ 9 := by omega
  refine hw.scal (cnt_su hw.1 (Or.inr hzn)) (nf_su (by omega)) (nb_su (by omega)) (ny_su (by omega)) (nd_su (by omega)) (fun x y z' hx _ => su_o (by omega)) ?_ ?_ ?_ ?_
  · by_cases e : z = 6
    · subst e; rw [su_s]
      rcases hz with ⟨-, h⟩ | ⟨h, -⟩ | ⟨h, -⟩ | ⟨h, -⟩ | h
      · exact h
      all_goals omega
    · rw [su_o (by omega)]; exact hw.2.2.2.2.2.2.1
  · by_cases e : z = 7
    · subst e; rw [su_s]
      rcases hz with ⟨h, -⟩ | ⟨-, h⟩ | ⟨h, -⟩ | ⟨h, -⟩ | h
      · omega
      · exact h
      all_goals omega
    · rw [su_o (by omega)]; exact hw.2.2.2.2.2.2.2.1
  · by_cases e : z = 8
    · subst e; rw [su_s]
      rcases hz with ⟨h, -⟩ | ⟨h, -⟩ | ⟨-, h⟩ | ⟨h, -⟩ | h
      · omega
      · omega
      · exact h
      all_goals omega
    · rw [su_o (by omega)]; exact hw.2.2.2.2.2.2.2.2.1
  · by_cases e : z = 4
    · subst e; rw [su_s]
      rcases hz with ⟨h, -⟩ | ⟨h, -⟩ | ⟨h, -⟩ | ⟨-, h⟩ | h
      · omega
      · omega
      · omega
      · exact h
      all_goals omega
    · rw [su_o (by omega)]; exact hw.2.2.2.2.2.2.2.2.2
end WFK
/-! the steps of a day -/
def sdf (S : SS) : SS := fo (fun f X => if X 2 f 3 = 0 then su X 2 f 4 (sdr X (X 2 f 4)) else X) (nf S) S
def gst (c h : Int32) : Int32 := if rm c 5 = rm h 5 then (if c = h then c else c + (if c < h then 5 else -5)) else c + (if rm c 5 < rm h 5 then 1 else -1)
def ssl (S : SS) (b : Nat) : SS := if S 3 b 1 = -1 then S else su (su S 3 b 0 (gst (S 3 b 0) (S 3 b 1))) 3 b 1 (if gst (S 3 b 0) (S 3 b 1) = S 3 b 1 then -1 else S 3 b 1)
def sflg (b : Nat) (f : Nat) (X : SS) : SS := if X 2 f 3 = 0 ∧ X 2 f 4 = X 3 b 0 ∧ bc (abd X (nI b)) < X 3 b 2 then tld (sfp X f 1 (nI b)) (nI f) 0 (nI b) (X 2 f 2) else X
def sfl (S : SS) (b : Nat) : SS := fo (sflg b) (nf S) S
def sulg (b : Nat) (f : Nat) (X : SS) : SS := if X 2 f 3 = 1 ∧ X 2 f 4 = nI b then sfp X f 2 0 else X
def sul (S : SS) (b : Nat) : SS := if S 3 b 0 = 0 then fo (sulg b) (nf S) S else S
def sbt (S : SS) : SS := fo (fun b X => sul (sfl (ssl X b) b) b) (nb S) S
def stng (T : Nat → Int32) (f : Nat) (X : SS) : SS := if X 2 f 3 = 1 ∨ X 2 f 3 = 2 then (if 0 < jmax 0 (X 2 f 2 - T f) then su X 2 f 2 (jmax 0 (X 2 f 2 - T f)) else tld (sfp (su X 2 f 2 (jmax 0 (X 2 f 2 - T f))) f 3 0) (nI f) 1 (-1) 0) else X
def stn (S : SS) (L : LW) : SS := fo (stng (str S L)) (nf S) S
def sic (S : SS) : SS := su S 0 0 6 (jmax 0 (S 0 0 6 - 1))
def sld (S : SS) (L : LW) (f b : Nat) (how : Int32) : SS := tld (sfp (su (su S 4 b 1 (S 4 b 1 - spr S L f)) 0 0 7 (jmin 9999 (S 0 0 7 + spr S L f))) f 3 0) (nI f) how (nI b) (S 2 f 2)
def sdw (S : SS) : SS := su S 0 0 10 (1103515245 * S 0 0 10 + 12345)
def strg (L : LW) (b : Nat) (p : SS × Int32) : SS × Int32 :=
  if rm ((shr (sdw p.1 0 0 10) 16) &&& 32767) 100 < p.1 4 b 3 then (if cho (sdw p.1) L b = -1 then (sdw p.1, p.2) else (sld (sdw p.1) L (ix (cho (sdw p.1) L b)) b 2, p.2 + 1)) else (sdw p.1, p.2)
def strd (S : SS) (L : LW) : SS × Int32 := fo (strg L) (ny S) (S, 0)
def sdy (S : SS) : SS := su S 0 0 8 (jmin 9999 (S 0 0 8 + 1))
/-- a day without buyers, and one with -/
def sdc (S : SS) (L : LW) : SS := sdy (sic (stn (sbt (sdf S)) L))
def sdb (S : SS) (L : LW) : SS × Int32 := (sdy (strd (sic (stn (sbt (sdf S)) L)) L).1, (strd (sic (stn (sbt (sdf S)) L)) L).2)
