/-! ===== runs of the abstract machine: rules ===== -/
/-- from c the method M ends, calls at most d deep, and its end is in Q -/
def Ex (d : Nat) (M : mM) (c : cfg) (Q : oR × aH → Prop) : Prop := ∃ r, Q r ∧ ∃ k, ∀ k', k ≤ k' → ∀ kk, k ≤ kk → lp Pg (cD Pg d kk) M k' c = some r
/-- the method y ends, and its end is in Q -/
def Rn (d y : Nat) (as : List Value) (h : aH) (Q : oR × aH → Prop) : Prop := ∃ r, Q r ∧ ∃ k, ∀ k', k ≤ k' → cD Pg d k' y as h = some r
/-- the method y returns v, and the heap is h' -/
abbrev Rt (d y : Nat) (as : List Value) (h : aH) (v : Option Value) (h' : aH) : Prop := Rn d y as h (fun r => r = (.inl v, h'))
theorem Ex.mono {d : Nat} {M : mM} {c : cfg} {Q Q' : oR × aH → Prop} (h : Ex d M c Q) (hq : ∀ r, Q r → Q' r) : Ex d M c Q' := by
  obtain ⟨r, h1, h2⟩ := h
  exact ⟨r, hq r h1, h2⟩
theorem Rn.mono {d y : Nat} {as : List Value} {h : aH} {Q Q' : oR × aH → Prop} (h1 : Rn d y as h Q) (hq : ∀ r, Q r → Q' r) : Rn d y as h Q' := by
  obtain ⟨r, h2, h3⟩ := h1
  exact ⟨r, hq r h2, h3⟩
theorem Rn.of {d y : Nat} {as : List Value} {h : aH} {Q : oR × aH → Prop} {M : mM} (hM : Pg[y]? = some M) {L : List Value} (hl : as.length ≤ M.2.2.1) (ho : as.all okV = true) (hL : as ++ List.replicate (M.2.2.1 - as.length) uV = L) (hx : Ex d M (0, L, [], h) Q) : Rn (d + 1) y as h Q := by
  obtain ⟨r, h1, k, h2⟩ := hx
  refine ⟨r, h1, k, fun k' hk => ?_⟩
  show (match Pg[y]? with | none => none | some M => if as.length ≤ M.2.2.1 ∧ as.all okV = true then lp Pg (cD Pg d k') M k' (0, as ++ List.replicate (M.2.2.1 - as.length) uV, [], h) else none) = some r
  rw [hM]
  simp only [if_pos (show as.length ≤ M.2.2.1 ∧ as.all okV = true from ⟨hl, ho⟩), hL]
  exact h2 k' hk k' hk
theorem Rn.of' {d H y : Nat} {as : List Value} {h : aH} {Q : oR × aH → Prop} {M : mM} (hd : H + 1 ≤ d) (hM : Pg[y]? = some M) {L : List Value} (hl : as.length ≤ M.2.2.1) (ho : as.all okV = true) (hL : as ++ List.replicate (M.2.2.1 - as.length) uV = L) (hx : ∀ d, H ≤ d → Ex d M (0, L, [], h) Q) : Rn d y as h Q := by
  obtain ⟨d', rfl⟩ : ∃ d', d = d' + 1 := ⟨d - 1, by omega⟩
  exact Rn.of hM hl ho hL (hx d' (by omega))
theorem Ex.step {d : Nat} {M : mM} {c c' : cfg} {Q : oR × aH → Prop} (hs : ∀ kk, stp Pg (cD Pg d kk) M c = some (.inl c')) (hx : Ex d M c' Q) : Ex d M c Q := by
  obtain ⟨r, h1, k, h2⟩ := hx
  refine ⟨r, h1, k + 1, fun k' hk kk hkk => ?_⟩
  obtain ⟨k'', rfl⟩ : ∃ k'', k' = k'' + 1 := ⟨k' - 1, by omega⟩
  show (match stp Pg (cD Pg d kk) M c with | none => none | some (.inl c') => lp Pg (cD Pg d kk) M k'' c' | some (.inr r) => some r) = some r
  rw [hs kk]
  exact h2 k'' (by omega) kk (by omega)
theorem Ex.done {d : Nat} {M : mM} {c : cfg} {r : oR × aH} {Q : oR × aH → Prop} (hs : ∀ kk, stp Pg (cD Pg d kk) M c = some (.inr r)) (hq : Q r) : Ex d M c Q := by
  refine ⟨r, hq, 1, fun k' hk kk _ => ?_⟩
  obtain ⟨k'', rfl⟩ : ∃ k'', k' = k'' + 1 := ⟨k' - 1, by omega⟩
  show (match stp Pg (cD Pg d kk) M c with | none => none | some (.inl c') => lp Pg (cD Pg d kk) M k'' c' | some (.inr r) => some r) = some r
  rw [hs kk]
def prun (M : mM) : Nat → Nat → List Value → List Value → Option (Nat × List Value × List Value)
  | 0, pc, L, S => some (pc, L, S)
  | n + 1, pc, L, S => match M.1[pc]? with
    | some e => match pS e L S with
      | some r => prun M n r.1 r.2.1 r.2.2
      | none => none
    | none => none
theorem Ex.run {d : Nat} {M : mM} {h : aH} {Q : oR × aH → Prop} : ∀ (n : Nat) {pc pc' : Nat} {L S L' S' : List Value}, prun M n pc L S = some (pc', L', S') → Ex d M (pc', L', S', h) Q → Ex d M (pc, L, S, h) Q := by
  intro n
  induction n with
  | zero => intro pc pc' L S L' S' hr hx; cases hr; exact hx
  | succ n ih =>
    intro pc pc' L S L' S' hr hx
    unfold prun at hr
    cases he : M.1[pc]? with
    | none => simp [he] at hr
    | some e =>
      simp only [he] at hr
      cases hp : pS e L S with
      | none => simp [hp] at hr
      | some r =>
        simp only [hp] at hr
        refine Ex.step (c' := (r.1, r.2.1, r.2.2, h)) (fun kk => ?_) (ih hr hx)
        simp only [stp, he, hp]
section RULES
variable {d pc nx tg : Nat} {M : mM} {cst : Int32} {L S : List Value} {h : aH} {Q : oR × aH → Prop} {o : Int}
theorem ex_eq {x y : Int32} (hf : M.1[pc]? = some (.if_icmp .eq o, cst, nx, tg)) (h1 : x = y → Ex d M (tg, L, S, h) Q) (h2 : ¬ x = y → Ex d M (nx, L, S, h) Q) : Ex d M (pc, L, .int y :: .int x :: S, h) Q := by
  by_cases hc : x = y
  · exact Ex.step (c' := (tg, L, S, h)) (fun kk => by simp [stp, hf, pS, sS, hc]) (h1 hc)
  · exact Ex.step (c' := (nx, L, S, h)) (fun kk => by simp [stp, hf, pS, sS, hc]) (h2 hc)
theorem ex_ne {x y : Int32} (hf : M.1[pc]? = some (.if_icmp .ne o, cst, nx, tg)) (h1 : x = y → Ex d M (nx, L, S, h) Q) (h2 : ¬ x = y → Ex d M (tg, L, S, h) Q) : Ex d M (pc, L, .int y :: .int x :: S, h) Q := by
  by_cases hc : x = y
  · exact Ex.step (c' := (nx, L, S, h)) (fun kk => by simp [stp, hf, pS, sS, hc]) (h1 hc)
  · exact Ex.step (c' := (tg, L, S, h)) (fun kk => by simp [stp, hf, pS, sS, hc]) (h2 hc)
theorem ex_lt {x y : Int32} (hf : M.1[pc]? = some (.if_icmp .lt o, cst, nx, tg)) (h1 : x < y → Ex d M (tg, L, S, h) Q) (h2 : ¬ x < y → Ex d M (nx, L, S, h) Q) : Ex d M (pc, L, .int y :: .int x :: S, h) Q := by
  by_cases hc : x < y
  · exact Ex.step (c' := (tg, L, S, h)) (fun kk => by simp only [stp, hf, pS, sS, if_pos hc]) (h1 hc)
  · exact Ex.step (c' := (nx, L, S, h)) (fun kk => by simp only [stp, hf, pS, sS, if_neg hc]) (h2 hc)
theorem ex_ge {x y : Int32} (hf : M.1[pc]? = some (.if_icmp .ge o, cst, nx, tg)) (h1 : x < y → Ex d M (nx, L, S, h) Q) (h2 : ¬ x < y → Ex d M (tg, L, S, h) Q) : Ex d M (pc, L, .int y :: .int x :: S, h) Q := by
  by_cases hc : x < y
  · exact Ex.step (c' := (nx, L, S, h)) (fun kk => by simp only [stp, hf, pS, sS, if_pos hc]) (h1 hc)
  · exact Ex.step (c' := (tg, L, S, h)) (fun kk => by simp only [stp, hf, pS, sS, if_neg hc]) (h2 hc)
theorem ex_gt {x y : Int32} (hf : M.1[pc]? = some (.if_icmp .gt o, cst, nx, tg)) (h1 : y < x → Ex d M (tg, L, S, h) Q) (h2 : ¬ y < x → Ex d M (nx, L, S, h) Q) : Ex d M (pc, L, .int y :: .int x :: S, h) Q := by
  by_cases hc : y < x
  · exact Ex.step (c' := (tg, L, S, h)) (fun kk => by simp only [stp, hf, pS, sS, if_pos hc]) (h1 hc)
  · exact Ex.step (c' := (nx, L, S, h)) (fun kk => by simp only [stp, hf, pS, sS, if_neg hc]) (h2 hc)
theorem ex_le {x y : Int32} (hf : M.1[pc]? = some (.if_icmp .le o, cst, nx, tg)) (h1 : y < x → Ex d M (nx, L, S, h) Q) (h2 : ¬ y < x → Ex d M (tg, L, S, h) Q) : Ex d M (pc, L, .int y :: .int x :: S, h) Q := by
  by_cases hc : y < x
  · exact Ex.step (c' := (nx, L, S, h)) (fun kk => by simp only [stp, hf, pS, sS, if_pos hc]) (h1 hc)
  · exact Ex.step (c' := (tg, L, S, h)) (fun kk => by simp only [stp, hf, pS, sS, if_neg hc]) (h2 hc)
theorem ex_eq0 {x : Int32} (hf : M.1[pc]? = some (.ifCond .eq o, cst, nx, tg)) (h1 : x = 0 → Ex d M (tg, L, S, h) Q) (h2 : ¬ x = 0 → Ex d M (nx, L, S, h) Q) : Ex d M (pc, L, .int x :: S, h) Q := by
  by_cases hc : x = 0
  · exact Ex.step (c' := (tg, L, S, h)) (fun kk => by simp only [stp, hf, pS, sS, if_pos hc]) (h1 hc)
  · exact Ex.step (c' := (nx, L, S, h)) (fun kk => by simp only [stp, hf, pS, sS, if_neg hc]) (h2 hc)
theorem ex_ne0 {x : Int32} (hf : M.1[pc]? = some (.ifCond .ne o, cst, nx, tg)) (h1 : x = 0 → Ex d M (nx, L, S, h) Q) (h2 : ¬ x = 0 → Ex d M (tg, L, S, h) Q) : Ex d M (pc, L, .int x :: S, h) Q := by
  by_cases hc : x = 0
  · exact Ex.step (c' := (nx, L, S, h)) (fun kk => by simp only [stp, hf, pS, sS, if_pos hc]) (h1 hc)
  · exact Ex.step (c' := (tg, L, S, h)) (fun kk => by simp only [stp, hf, pS, sS, if_neg hc]) (h2 hc)
theorem ex_lt0 {x : Int32} (hf : M.1[pc]? = some (.ifCond .lt o, cst, nx, tg)) (h1 : x < 0 → Ex d M (tg, L, S, h) Q) (h2 : ¬ x < 0 → Ex d M (nx, L, S, h) Q) : Ex d M (pc, L, .int x :: S, h) Q := by
  by_cases hc : x < 0
  · exact Ex.step (c' := (tg, L, S, h)) (fun kk => by simp only [stp, hf, pS, sS, if_pos hc]) (h1 hc)
  · exact Ex.step (c' := (nx, L, S, h)) (fun kk => by simp only [stp, hf, pS, sS, if_neg hc]) (h2 hc)
theorem ex_ge0 {x : Int32} (hf : M.1[pc]? = some (.ifCond .ge o, cst, nx, tg)) (h1 : x < 0 → Ex d M (nx, L, S, h) Q) (h2 : ¬ x < 0 → Ex d M (tg, L, S, h) Q) : Ex d M (pc, L, .int x :: S, h) Q := by
  by_cases hc : x < 0
  · exact Ex.step (c' := (nx, L, S, h)) (fun kk => by simp only [stp, hf, pS, sS, if_pos hc]) (h1 hc)
  · exact Ex.step (c' := (tg, L, S, h)) (fun kk => by simp only [stp, hf, pS, sS, if_neg hc]) (h2 hc)
theorem ex_gt0 {x : Int32} (hf : M.1[pc]? = some (.ifCond .gt o, cst, nx, tg)) (h1 : 0 < x → Ex d M (tg, L, S, h) Q) (h2 : ¬ 0 < x → Ex d M (nx, L, S, h) Q) : Ex d M (pc, L, .int x :: S, h) Q := by
  by_cases hc : 0 < x
  · exact Ex.step (c' := (tg, L, S, h)) (fun kk => by simp only [stp, hf, pS, sS, if_pos hc]) (h1 hc)
  · exact Ex.step (c' := (nx, L, S, h)) (fun kk => by simp only [stp, hf, pS, sS, if_neg hc]) (h2 hc)
theorem ex_le0 {x : Int32} (hf : M.1[pc]? = some (.ifCond .le o, cst, nx, tg)) (h1 : 0 < x → Ex d M (nx, L, S, h) Q) (h2 : ¬ 0 < x → Ex d M (tg, L, S, h) Q) : Ex d M (pc, L, .int x :: S, h) Q := by
  by_cases hc : 0 < x
  · exact Ex.step (c' := (nx, L, S, h)) (fun kk => by simp only [stp, hf, pS, sS, if_pos hc]) (h1 hc)
  · exact Ex.step (c' := (tg, L, S, h)) (fun kk => by simp only [stp, hf, pS, sS, if_neg hc]) (h2 hc)
theorem ex_getI {a k : Nat} (hf : M.1[pc]? = some (.getfield k, cst, nx, tg)) (ht : aT h a = tg) (hk : k < nF tg) (hr : fK tg k ≠ 1) (kk : Ex d M (nx, L, .int (aI h a k) :: S, h) Q) : Ex d M (pc, L, .ref a :: S, h) Q :=
  Ex.step (c' := (nx, L, .int (aI h a k) :: S, h)) (fun kk => by simp only [stp, hf, pS, sS, fV, if_neg hr]; rw [if_pos ⟨ht, hk⟩]) kk
theorem ex_getR {a k b : Nat} (hf : M.1[pc]? = some (.getfield k, cst, nx, tg)) (ht : aT h a = tg) (hk : k < nF tg) (hr : fK tg k = 1) (hb : aR h a k = b) (h0 : b ≠ 0) (kk : Ex d M (nx, L, .ref b :: S, h) Q) : Ex d M (pc, L, .ref a :: S, h) Q :=
  Ex.step (c' := (nx, L, .ref b :: S, h)) (fun kk => by simp only [stp, hf, pS, sS, fV, if_pos hr, hb, rV, if_neg h0]; rw [if_pos ⟨ht, hk⟩]) kk
theorem ex_putI {a k : Nat} {x : Int32} (hf : M.1[pc]? = some (.putfield k, cst, nx, tg)) (ht : aT h a = tg ∧ tg < 13 ∧ 1000 ≤ a ∧ k < nF tg) (hr : fK tg k = 0 ∨ fK tg k = 2 ∧ (x = 0 ∨ x = 1)) (kk : Ex d M (nx, L, S, aSI h a k x) Q) : Ex d M (pc, L, .int x :: .ref a :: S, h) Q :=
  Ex.step (c' := (nx, L, S, aSI h a k x)) (fun kk => by simp only [stp, hf, pS, sS]; rw [if_pos ⟨ht.1, ht.2.1, ht.2.2.1, ht.2.2.2, hr⟩]) kk
theorem ex_putR {a k b : Nat} (hf : M.1[pc]? = some (.putfield k, cst, nx, tg)) (ht : aT h a = tg ∧ tg < 13 ∧ 1000 ≤ a ∧ k < nF tg) (hr : fK tg k = 1) (hb : 1000 ≤ b) (kk : Ex d M (nx, L, S, aSR h a k b) Q) : Ex d M (pc, L, .ref b :: .ref a :: S, h) Q :=
  Ex.step (c' := (nx, L, S, aSR h a k b)) (fun kk => by simp only [stp, hf, pS, sS]; rw [if_pos ⟨ht.1, ht.2.1, ht.2.2.1, ht.2.2.2, hr, hb⟩]) kk
theorem ex_iald {a j : Nat} {i : Int32} (hf : M.1[pc]? = some (.iaload, cst, nx, tg)) (ht : aT h a = 100) (hi : i = nI j) (hj : j < aL h a) (hb : j < 2 ^ 31) (kk : Ex d M (nx, L, .int (aI h a j) :: S, h) Q) : Ex d M (pc, L, .int i :: .ref a :: S, h) Q := by
  subst hi
  refine Ex.step (c' := (nx, L, .int (aI h a j) :: S, h)) (fun kk => ?_) kk
  simp only [stp, hf, pS, sS]
  rw [if_pos ⟨ht, nI_pos hb, by rw [nI_clamp hb]; exact hj⟩, nI_clamp hb]
theorem ex_bald {a j : Nat} {i : Int32} (hf : M.1[pc]? = some (.baload, cst, nx, tg)) (ht : aT h a = 101 ∨ aT h a = 102) (hi : i = nI j) (hj : j < aL h a) (hb : j < 2 ^ 31) (kk : Ex d M (nx, L, .int (aI h a j) :: S, h) Q) : Ex d M (pc, L, .int i :: .ref a :: S, h) Q := by
  subst hi
  refine Ex.step (c' := (nx, L, .int (aI h a j) :: S, h)) (fun kk => ?_) kk
  simp only [stp, hf, pS, sS]
  rw [if_pos ⟨ht, nI_pos hb, by rw [nI_clamp hb]; exact hj⟩, nI_clamp hb]
theorem ex_lald {a j : Nat} {i : Int32} (hf : M.1[pc]? = some (.laload, cst, nx, tg)) (ht : aT h a = 103) (hi : i = nI j) (hj : j < aL h a) (hb : j < 2 ^ 31) (kk : Ex d M (nx, L, .long (aI h a j).toInt64 :: S, h) Q) : Ex d M (pc, L, .int i :: .ref a :: S, h) Q := by
  subst hi
  refine Ex.step (c' := (nx, L, .long (aI h a j).toInt64 :: S, h)) (fun kk => ?_) kk
  simp only [stp, hf, pS, sS]
  rw [if_pos ⟨ht, nI_pos hb, by rw [nI_clamp hb]; exact hj⟩, nI_clamp hb]
theorem ex_aald {a j b : Nat} {i : Int32} (hf : M.1[pc]? = some (.aaload, cst, nx, tg)) (ht : aT h a = 104 ∨ aT h a = 105) (hi : i = nI j) (hj : j < aL h a) (hb : j < 2 ^ 31) (hr : aR h a j = b) (h0 : b ≠ 0) (kk : Ex d M (nx, L, .ref b :: S, h) Q) : Ex d M (pc, L, .int i :: .ref a :: S, h) Q := by
  subst hi
  refine Ex.step (c' := (nx, L, .ref b :: S, h)) (fun kk => ?_) kk
  simp only [stp, hf, pS, sS]
  rw [if_pos ⟨ht, nI_pos hb, by rw [nI_clamp hb]; exact hj⟩, nI_clamp hb, hr, rV, if_neg h0]
theorem ex_iast {a j : Nat} {i x : Int32} (hf : M.1[pc]? = some (.iastore, cst, nx, tg)) (ht : aT h a = 100) (h1 : 1000 ≤ a) (hi : i = nI j) (hj : j < aL h a) (hb : j < 2 ^ 31) (kk : Ex d M (nx, L, S, aSI h a j x) Q) : Ex d M (pc, L, .int x :: .int i :: .ref a :: S, h) Q := by
  subst hi
  refine Ex.step (c' := (nx, L, S, aSI h a j x)) (fun kk => ?_) kk
  simp only [stp, hf, pS, sS]
  rw [if_pos ⟨ht, h1, nI_pos hb, by rw [nI_clamp hb]; exact hj⟩, nI_clamp hb]
theorem ex_bast {a j : Nat} {i x : Int32} (hf : M.1[pc]? = some (.bastore, cst, nx, tg)) (ht : aT h a = 101) (h1 : 1000 ≤ a) (hi : i = nI j) (hj : j < aL h a) (hb : j < 2 ^ 31) (kk : Ex d M (nx, L, S, aSI h a j x.toInt8.toInt32) Q) : Ex d M (pc, L, .int x :: .int i :: .ref a :: S, h) Q := by
  subst hi
  refine Ex.step (c' := (nx, L, S, aSI h a j x.toInt8.toInt32)) (fun kk => ?_) kk
  simp only [stp, hf, pS, sS]
  rw [if_pos ⟨h1, nI_pos hb, by rw [nI_clamp hb]; exact hj⟩, nI_clamp hb, if_pos ht]
theorem ex_zast {a j : Nat} {i x : Int32} (hf : M.1[pc]? = some (.bastore, cst, nx, tg)) (ht : aT h a = 102) (h1 : 1000 ≤ a) (hi : i = nI j) (hj : j < aL h a) (hb : j < 2 ^ 31) (hx : x = 0 ∨ x = 1) (kk : Ex d M (nx, L, S, aSI h a j x) Q) : Ex d M (pc, L, .int x :: .int i :: .ref a :: S, h) Q := by
  subst hi
  refine Ex.step (c' := (nx, L, S, aSI h a j x)) (fun kk => ?_) kk
  simp only [stp, hf, pS, sS]
  rw [if_pos ⟨h1, nI_pos hb, by rw [nI_clamp hb]; exact hj⟩, nI_clamp hb, if_neg (by rw [ht]; decide), if_pos ⟨ht, hx⟩]
theorem ex_alen {a n : Nat} (hf : M.1[pc]? = some (.arraylength, cst, nx, tg)) (ht : 100 ≤ aT h a ∧ aT h a ≤ 105) (hn : aL h a = n) (kk : Ex d M (nx, L, .int (nI n) :: S, h) Q) : Ex d M (pc, L, .ref a :: S, h) Q :=
  Ex.step (c' := (nx, L, .int (nI n) :: S, h)) (fun kk => by simp only [stp, hf, pS, sS]; rw [if_pos ht, hn]) kk
theorem ex_nonnull {a : Nat} (hf : M.1[pc]? = some (.ifnonnull o, cst, nx, tg)) (ha : a ≠ 999) (kk : Ex d M (tg, L, S, h) Q) : Ex d M (pc, L, .ref a :: S, h) Q :=
  Ex.step (c' := (tg, L, S, h)) (fun kk => by simp only [stp, hf, pS, sS]; rw [if_neg ha]) kk
theorem ex_null {a : Nat} (hf : M.1[pc]? = some (.ifnull o, cst, nx, tg)) (ha : a ≠ 999) (kk : Ex d M (nx, L, S, h) Q) : Ex d M (pc, L, .ref a :: S, h) Q :=
  Ex.step (c' := (nx, L, S, h)) (fun kk => by simp only [stp, hf, pS, sS]; rw [if_neg ha]) kk
theorem ex_swI {x : Int32} {dd lo hi : Int} {offs : Array Int} {t : Int} (hf : M.1[pc]? = some (.tableswitch dd lo hi offs, cst, nx, tg)) (h1 : lo ≤ x.toInt) (h2 : x.toInt ≤ hi) (ht : offs[(x.toInt - lo).toNat]? = some t) (kk : Ex d M (t.toNat, L, S, h) Q) : Ex d M (pc, L, .int x :: S, h) Q :=
  Ex.step (c' := (t.toNat, L, S, h)) (fun kk => by simp only [stp, hf, pS, sS]; rw [if_neg (by omega), ht]) kk
theorem ex_swO {x : Int32} {dd lo hi : Int} {offs : Array Int} (hf : M.1[pc]? = some (.tableswitch dd lo hi offs, cst, nx, tg)) (h1 : x.toInt < lo ∨ hi < x.toInt) (kk : Ex d M (dd.toNat, L, S, h) Q) : Ex d M (pc, L, .int x :: S, h) Q :=
  Ex.step (c' := (dd.toNat, L, S, h)) (fun kk => by simp only [stp, hf, pS, sS]; rw [if_pos h1]) kk
theorem ex_ls {x : Int32} {dd : Int} {ps : Array (Int × Int)} {t : Int} (hf : M.1[pc]? = some (.lookupswitch dd ps, cst, nx, tg)) (ht : lsw dd x.toInt ps.toList = t) (kk : Ex d M (t.toNat, L, S, h) Q) : Ex d M (pc, L, .int x :: S, h) Q :=
  Ex.step (c' := (t.toNat, L, S, h)) (fun kk => by simp only [stp, hf, pS, sS, ht]) kk
theorem ex_cpy {a b sp dp n : Nat} {i j k : Int32} (hf : M.1[pc]? = some (.invokedynamic tg, cst, nx, 0)) (ha : aT h a = 100 ∧ aT h b = 100 ∧ 1000 ≤ b) (hS : cat8 S = true) (hi : i = nI sp) (hj : j = nI dp) (hk : k = nI n) (h1 : sp < 2 ^ 31) (h2 : dp < 2 ^ 31) (h3 : n < 2 ^ 31) (h4 : sp + n ≤ aL h a) (h5 : dp + n ≤ aL h b) (kk : Ex d M (nx, L, S, aCpy h a sp b dp n) Q) : Ex d M (pc, L, .int k :: .int j :: .ref b :: .int i :: .ref a :: S, h) Q := by
  subst hi; subst hj; subst hk
  refine Ex.step (c' := (nx, L, S, aCpy h a sp b dp n)) (fun kk => ?_) kk
  simp only [stp, hf, pS, sS, nI_clamp h1, nI_clamp h2, nI_clamp h3]
  rw [if_pos ⟨ha.1, ha.2.1, ha.2.2, hS, nI_pos h1, nI_pos h2, nI_pos h3, h4, h5⟩]
theorem ex_cln {a t9 : Nat} (hf : M.1[pc]? = some (.invokeinterface t9 tg, cst, nx, 0)) (ha : aT h a = 100 ∧ 1000 ≤ a) (hS : cat8 S = true) (kk : Ex d M (nx, L, .ref (aN h) :: S, aCln h a) Q) : Ex d M (pc, L, .ref a :: S, h) Q :=
  Ex.step (c' := (nx, L, .ref (aN h) :: S, aCln h a)) (fun kk => by simp only [stp, hf, pS, sS]; rw [if_pos ⟨ha.1, ha.2, hS⟩]) kk
theorem ex_cst {a t9 : Nat} (hf : M.1[pc]? = some (.checkcast t9, cst, nx, tg)) (ha : aT h a = 100 ∧ 1000 ≤ a) (kk : Ex d M (nx, L, .ref a :: S, h) Q) : Ex d M (pc, L, .ref a :: S, h) Q :=
  Ex.step (c' := (nx, L, .ref a :: S, h)) (fun kk => by simp only [stp, hf, pS, sS]; rw [if_pos ha]) kk
theorem ex_newa {ty : ArrayType} {n : Nat} {i : Int32} (hf : M.1[pc]? = some (.newarray ty, cst, nx, tg)) (ht : tagA ty ≤ 103) (hi : i = nI n) (hn : n ≤ 1000000) (kk : Ex d M (nx, L, .ref (aN h) :: S, aNew h (tagA ty) n n) Q) : Ex d M (pc, L, .int i :: S, h) Q := by
  subst hi
  refine Ex.step (c' := (nx, L, .ref (aN h) :: S, aNew h (tagA ty) n n)) (fun kk => ?_) kk
  simp only [stp, hf, pS, sS, nI_clamp (show n < 2 ^ 31 by omega)]
  rw [if_pos ⟨ht, nI_pos (by omega), hn⟩]
theorem ex_new {c : Nat} (hf : M.1[pc]? = some (.new c, cst, nx, tg)) (hc : c < 13) (kk : Ex d M (nx, L, .ref (aN h) :: S, aNew h c (nF c) (nF c)) Q) : Ex d M (pc, L, S, h) Q :=
  Ex.step (c' := (nx, L, .ref (aN h) :: S, aNew h c (nF c) (nF c))) (fun kk => by simp only [stp, hf, pS, sS]; rw [if_pos hc]) kk
theorem ex_mke {c : Nat} (hf : M.1[pc]? = some (.new c, cst, nx, tg)) (hc : 20 ≤ c ∧ c < 25) (kk : Ex d M (nx, L, [.ref (aN h)], aNew h c 0 6) Q) : Ex d M (pc, L, [], h) Q :=
  Ex.step (c' := (nx, L, [.ref (aN h)], aNew h c 0 6)) (fun kk => by simp only [stp, hf, pS, sS]; rw [if_neg (by omega), if_pos (by simp [hc.1, hc.2])]) kk
theorem ex_ret {x : Int32} (hf : M.1[pc]? = some (.ireturn, cst, nx, tg)) (hr : M.2.2.2.1 = 1 ∨ M.2.2.2.1 = 2 ∧ (x = 0 ∨ x = 1)) (hq : Q (.inl (some (.int x)), h)) : Ex d M (pc, L, [.int x], h) Q :=
  Ex.done (r := (.inl (some (.int x)), h)) (fun kk => by
    simp only [stp, hf, pS, sS]
    rw [if_pos (by rcases hr with h | h; exact Or.inl h; exact Or.inr (Or.inl h))]) hq
theorem ex_retc {x : Int32} (hf : M.1[pc]? = some (.ireturn, cst, nx, tg)) (hr : M.2.2.2.1 = 4 ∧ narrow .char (.int x) = .int x ∨ M.2.2.2.1 = 5 ∧ narrow .byte (.int x) = .int x) (hq : Q (.inl (some (.int x)), h)) : Ex d M (pc, L, [.int x], h) Q :=
  Ex.done (r := (.inl (some (.int x)), h)) (fun kk => by
    simp only [stp, hf, pS, sS]
    rw [if_pos (Or.inr (Or.inr hr))]) hq
theorem ex_reta {a : Nat} (hf : M.1[pc]? = some (.areturn, cst, nx, tg)) (hr : M.2.2.2.1 = 3) (hq : Q (.inl (some (.ref a)), h)) : Ex d M (pc, L, [.ref a], h) Q :=
  Ex.done (r := (.inl (some (.ref a)), h)) (fun kk => by simp only [stp, hf, pS, sS]; rw [if_pos hr]) hq
theorem ex_retv (hf : M.1[pc]? = some (.return_, cst, nx, tg)) (hr : M.2.2.2.1 = 0) (hq : Q (.inl none, h)) : Ex d M (pc, L, [], h) Q :=
  Ex.done (r := (.inl none, h)) (fun kk => by simp only [stp, hf, pS, sS]; rw [if_pos hr]) hq
/-- a throw that leaves the method -/
theorem ex_thr {q : Nat} (hf : M.1[pc]? = some (.athrow, cst, nx, tg)) (ht : 20 ≤ aT h q ∧ aT h q < 25) (hh : hnd M.2.1 pc (aT h q) = none) (hq : Q (.inr q, h)) : Ex d M (pc, L, .ref q :: S, h) Q :=
  Ex.done (r := (.inr q, h)) (fun kk => by simp only [stp, hf, pS, sS]; rw [if_pos ht]; simp only [thr, hh]) hq
/-- a call -/
theorem ex_callS {y : Nat} {Y : mM} {as S' : List Value} {Q' : oR × aH → Prop} (hf : M.1[pc]? = some (.invokestatic y, cst, nx, tg)) (hY : Pg[y]? = some Y) (hs : Y.2.2.2.2.2 = 99) (hlen : Y.2.2.2.2.1 ≤ S.length) (hd : S.drop Y.2.2.2.2.1 = S') (h8 : cat8 S' = true) (ha : (S.take Y.2.2.2.2.1).reverse = as) (hc : Rn d y as h Q')
    (kk : ∀ r, Q' r → match r with
      | (.inl (some v), h') => Ex d M (nx, L, v :: S', h') Q
      | (.inl none, h') => Ex d M (nx, L, S', h') Q
      | (.inr q, h') => match hnd M.2.1 pc (aT h' q) with
        | some t => ∃ (k : Nat) (cst : Int32) (nx tg : Nat), M.1[t]? = some (.astore k, cst, nx, tg) ∧ Ex d M (nx, L.set k uV, [], h') Q
        | none => Q (.inr q, h')) : Ex d M (pc, L, S, h) Q := by
  obtain ⟨r, h1, k, h2⟩ := hc
  have h3 := kk r h1
  have hst : ∀ kk, k ≤ kk → stp Pg (cD Pg d kk) M (pc, L, S, h) = bck M pc nx L S' (some r) := fun kk hk => by
    simp only [stp, hf, pS, sS, hY]
    rw [if_pos ⟨hs, hlen, by rw [hd]; exact h8⟩, hd, ha, h2 kk hk]
  have fin : ∀ c', (∀ kk, k ≤ kk → stp Pg (cD Pg d kk) M (pc, L, S, h) = some (.inl c')) → Ex d M c' Q → Ex d M (pc, L, S, h) Q := by
    rintro c' hc ⟨r', q1, k2, q2⟩
    refine ⟨r', q1, k + k2 + 1, fun k' hk kk hkk => ?_⟩
    obtain ⟨k'', rfl⟩ : ∃ k'', k' = k'' + 1 := ⟨k' - 1, by omega⟩
    show (match stp Pg (cD Pg d kk) M (pc, L, S, h) with | none => none | some (.inl c') => lp Pg (cD Pg d kk) M k'' c' | some (.inr r) => some r) = some r'
    rw [hc kk (by omega)]
    exact q2 k'' (by omega) kk (by omega)
  obtain ⟨o, h'⟩ := r
  rcases o with (_ | v) | q
  · exact fin _ (fun kk hk => by rw [hst kk hk]; rfl) h3
  · exact fin _ (fun kk hk => by rw [hst kk hk]; rfl) h3
  · dsimp only at h3
    cases hh : hnd M.2.1 pc (aT h' q) with
    | some t =>
      rw [hh] at h3
      obtain ⟨k5, cst5, nx5, tg5, e5, h5⟩ := h3
      exact fin _ (fun kk hk => by rw [hst kk hk]; simp only [bck, thr, hh, e5]) h5
    | none =>
      rw [hh] at h3
      refine ⟨_, h3, k + 1, fun k' hk kk hkk => ?_⟩
      obtain ⟨k'', rfl⟩ : ∃ k'', k' = k'' + 1 := ⟨k' - 1, by omega⟩
      show (match stp Pg (cD Pg d kk) M (pc, L, S, h) with | none => none | some (.inl c') => lp Pg (cD Pg d kk) M k'' c' | some (.inr r) => some r) = _
      rw [hst kk (by omega)]
      simp only [bck, thr, hh]
theorem ex_callV {y a : Nat} {Y : mM} {as S' : List Value} {Q' : oR × aH → Prop} (hf : M.1[pc]? = some (.invokevirtual y, cst, nx, tg) ∨ M.1[pc]? = some (.invokespecial y, cst, nx, tg) ∧ y ≠ 9999 ∧ Y.2.2.2.2.2 < 13) (hY : Pg[y]? = some Y) (hs : Y.2.2.2.2.2 < 14) (ht : aT h a = Y.2.2.2.2.2) (hd : S.drop Y.2.2.2.2.1 = .ref a :: S') (h8 : cat8 S' = true) (ha : .ref a :: (S.take Y.2.2.2.2.1).reverse = as) (hc : Rn d y as h Q')
    (kk : ∀ r, Q' r → match r with
      | (.inl (some v), h') => Ex d M (nx, L, v :: S', h') Q
      | (.inl none, h') => Ex d M (nx, L, S', h') Q
      | (.inr q, h') => match hnd M.2.1 pc (aT h' q) with
        | some t => ∃ (k : Nat) (cst : Int32) (nx tg : Nat), M.1[t]? = some (.astore k, cst, nx, tg) ∧ Ex d M (nx, L.set k uV, [], h') Q
        | none => Q (.inr q, h')) : Ex d M (pc, L, S, h) Q := by
  obtain ⟨r, h1, k, h2⟩ := hc
  have h3 := kk r h1
  have hst : ∀ kk, k ≤ kk → stp Pg (cD Pg d kk) M (pc, L, S, h) = bck M pc nx L S' (some r) := fun kk hk => by
    rcases hf with hf | ⟨hf, h9, h13⟩
    · simp only [stp, hf, pS, sS, hY, hd]
      rw [if_pos ⟨hs, ht, h8⟩, ha, h2 kk hk]
    · simp only [stp, hf, pS, sS, hY, hd, if_neg h9]
      rw [if_pos ⟨h13, ht, h8⟩, ha, h2 kk hk]
  have fin : ∀ c', (∀ kk, k ≤ kk → stp Pg (cD Pg d kk) M (pc, L, S, h) = some (.inl c')) → Ex d M c' Q → Ex d M (pc, L, S, h) Q := by
    rintro c' hc ⟨r', q1, k2, q2⟩
    refine ⟨r', q1, k + k2 + 1, fun k' hk kk hkk => ?_⟩
    obtain ⟨k'', rfl⟩ : ∃ k'', k' = k'' + 1 := ⟨k' - 1, by omega⟩
    show (match stp Pg (cD Pg d kk) M (pc, L, S, h) with | none => none | some (.inl c') => lp Pg (cD Pg d kk) M k'' c' | some (.inr r) => some r) = some r'
    rw [hc kk (by omega)]
    exact q2 k'' (by omega) kk (by omega)
  obtain ⟨o, h'⟩ := r
  rcases o with (_ | v) | q
  · exact fin _ (fun kk hk => by rw [hst kk hk]; rfl) h3
  · exact fin _ (fun kk hk => by rw [hst kk hk]; rfl) h3
  · dsimp only at h3
    cases hh : hnd M.2.1 pc (aT h' q) with
    | some t =>
      rw [hh] at h3
      obtain ⟨k5, cst5, nx5, tg5, e5, h5⟩ := h3
      exact fin _ (fun kk hk => by rw [hst kk hk]; simp only [bck, thr, hh, e5]) h5
    | none =>
      rw [hh] at h3
      refine ⟨_, h3, k + 1, fun k' hk kk hkk => ?_⟩
      obtain ⟨k'', rfl⟩ : ∃ k'', k' = k'' + 1 := ⟨k' - 1, by omega⟩
      show (match stp Pg (cD Pg d kk) M (pc, L, S, h) with | none => none | some (.inl c') => lp Pg (cD Pg d kk) M k'' c' | some (.inr r) => some r) = _
      rw [hst kk (by omega)]
      simp only [bck, thr, hh]
theorem ex_obj {a : Nat} (hf : M.1[pc]? = some (.invokespecial 9999, cst, nx, tg)) (ha : a ≠ 999) (h8 : cat8 S = true) (kk : Ex d M (nx, L, S, h) Q) : Ex d M (pc, L, .ref a :: S, h) Q :=
  Ex.step (c' := (nx, L, S, h)) (fun kk => by simp only [stp, hf, pS, sS]; rw [if_pos trivial, if_pos ⟨ha, h8⟩]) kk
/-- calls that return: the common forms -/
theorem ex_cs {y : Nat} {Y : mM} {as S' : List Value} {v : Value} {h' : aH} (hf : M.1[pc]? = some (.invokestatic y, cst, nx, tg)) (hY : Pg[y]? = some Y) (hs : Y.2.2.2.2.2 = 99) (hlen : Y.2.2.2.2.1 ≤ S.length) (hd : S.drop Y.2.2.2.2.1 = S') (h8 : cat8 S' = true) (ha : (S.take Y.2.2.2.2.1).reverse = as) (hc : Rt d y as h (some v) h') (kk : Ex d M (nx, L, v :: S', h') Q) : Ex d M (pc, L, S, h) Q :=
  ex_callS hf hY hs hlen hd h8 ha hc (by rintro r rfl; exact kk)
theorem ex_csv {y : Nat} {Y : mM} {as S' : List Value} {h' : aH} (hf : M.1[pc]? = some (.invokestatic y, cst, nx, tg)) (hY : Pg[y]? = some Y) (hs : Y.2.2.2.2.2 = 99) (hlen : Y.2.2.2.2.1 ≤ S.length) (hd : S.drop Y.2.2.2.2.1 = S') (h8 : cat8 S' = true) (ha : (S.take Y.2.2.2.2.1).reverse = as) (hc : Rt d y as h none h') (kk : Ex d M (nx, L, S', h') Q) : Ex d M (pc, L, S, h) Q :=
  ex_callS hf hY hs hlen hd h8 ha hc (by rintro r rfl; exact kk)
theorem ex_cv {y a : Nat} {Y : mM} {as S' : List Value} {v : Value} {h' : aH} (hf : M.1[pc]? = some (.invokevirtual y, cst, nx, tg)) (hY : Pg[y]? = some Y) (hs : Y.2.2.2.2.2 < 14) (ht : aT h a = Y.2.2.2.2.2) (hd : S.drop Y.2.2.2.2.1 = .ref a :: S') (h8 : cat8 S' = true) (ha : .ref a :: (S.take Y.2.2.2.2.1).reverse = as) (hc : Rt d y as h (some v) h') (kk : Ex d M (nx, L, v :: S', h') Q) : Ex d M (pc, L, S, h) Q :=
  ex_callV (Or.inl hf) hY hs ht hd h8 ha hc (by rintro r rfl; exact kk)
theorem ex_cvv {y a : Nat} {Y : mM} {as S' : List Value} {h' : aH} (hf : M.1[pc]? = some (.invokevirtual y, cst, nx, tg)) (hY : Pg[y]? = some Y) (hs : Y.2.2.2.2.2 < 14) (ht : aT h a = Y.2.2.2.2.2) (hd : S.drop Y.2.2.2.2.1 = .ref a :: S') (h8 : cat8 S' = true) (ha : .ref a :: (S.take Y.2.2.2.2.1).reverse = as) (hc : Rt d y as h none h') (kk : Ex d M (nx, L, S', h') Q) : Ex d M (pc, L, S, h) Q :=
  ex_callV (Or.inl hf) hY hs ht hd h8 ha hc (by rintro r rfl; exact kk)
theorem ex_ci {y a : Nat} {Y : mM} {as S' : List Value} {h' : aH} (hf : M.1[pc]? = some (.invokespecial y, cst, nx, tg)) (h9 : y ≠ 9999) (hY : Pg[y]? = some Y) (hs : Y.2.2.2.2.2 < 13) (ht : aT h a = Y.2.2.2.2.2) (hd : S.drop Y.2.2.2.2.1 = .ref a :: S') (h8 : cat8 S' = true) (ha : .ref a :: (S.take Y.2.2.2.2.1).reverse = as) (hc : Rt d y as h none h') (kk : Ex d M (nx, L, S', h') Q) : Ex d M (pc, L, S, h) Q :=
  ex_callV (Or.inr ⟨hf, h9, hs⟩) hY (by omega) ht hd h8 ha hc (by rintro r rfl; exact kk)
end RULES
