/-! ===== heaps only grow ===== -/
def le2 (h h' : aH) : Prop := aN h ≤ aN h' ∧ aU h ≤ aU h'
theorem le2.refl (h : aH) : le2 h h := ⟨Nat.le_refl _, Nat.le_refl _⟩
theorem le2.trans {a b c : aH} (h1 : le2 a b) (h2 : le2 b c) : le2 a c := ⟨Nat.le_trans h1.1 h2.1, Nat.le_trans h1.2 h2.2⟩
def hOf (r : cfg ⊕ (oR × aH)) : aH := match r with
  | .inl c => c.2.2.2
  | .inr r => r.2
theorem le2_SI (h : aH) (a k : Nat) (v : Int32) : le2 h (aSI h a k v) := ⟨Nat.le_refl _, Nat.le_refl _⟩
theorem le2_SR (h : aH) (a k : Nat) (v : Nat) : le2 h (aSR h a k v) := ⟨Nat.le_refl _, Nat.le_refl _⟩
theorem le2_New (h : aH) (t len n : Nat) : le2 h (aNew h t len n) := ⟨Nat.le_succ _, Nat.le_add_right _ _⟩
theorem le2_New2 (h : aH) (n k : Nat) : le2 h (aNew2 h n k) := ⟨by show h.1 ≤ h.1 + 1 + n; omega, Nat.le_add_right _ _⟩
theorem le2_Cpy (h : aH) (a sp b dp n : Nat) : le2 h (aCpy h a sp b dp n) := ⟨Nat.le_refl _, Nat.le_refl _⟩
theorem le2_Cln (h : aH) (a : Nat) : le2 h (aCln h a) := ⟨Nat.le_succ _, Nat.le_add_right _ _⟩
theorem thr_mono {M : mM} {pc q : Nat} {L : List Value} {h : aH} {r : cfg ⊕ (oR × aH)} (hs : thr M pc L h q = some r) : le2 h (hOf r) := by
  unfold thr at hs
  split at hs
  · split at hs
    · cases hs; exact le2.refl _
    · cases hs
  · cases hs; exact le2.refl _
theorem bck_mono {M : mM} {pc nx : Nat} {L S : List Value} {h : aH} {r9 : Option (oR × aH)} {r : cfg ⊕ (oR × aH)} (hc : ∀ r, r9 = some r → le2 h r.2) (hs : bck M pc nx L S r9 = some r) : le2 h (hOf r) := by
  unfold bck at hs
  split at hs
  · cases hs; exact hc _ rfl
  · cases hs; exact hc _ rfl
  · exact (hc _ rfl).trans (thr_mono hs)
  · cases hs
set_option maxHeartbeats 8000000 in
theorem sS_mono {P : List mM} {call : Nat → List Value → aH → Option (oR × aH)} (hc : ∀ y as h r, call y as h = some r → le2 h r.2) {M : mM} {e : mE} {pc : Nat} {L S : List Value} {h : aH} {r : cfg ⊕ (oR × aH)} (hs : sS P call M e pc L S h = some r) : le2 h (hOf r) := by
  unfold sS at hs
  repeat' split at hs
  all_goals first
    | (cases hs; done)
    | (cases hs; exact le2.refl _)
    | (cases hs; exact le2_SI _ _ _ _)
    | (cases hs; exact le2_SR _ _ _ _)
    | (cases hs; exact le2_New _ _ _ _)
    | (cases hs; exact le2_New2 _ _ _)
    | (cases hs; exact le2_Cpy _ _ _ _ _ _)
    | (cases hs; exact le2_Cln _ _)
    | exact thr_mono hs
    | exact bck_mono (fun r hr => hc _ _ _ _ hr) hs
theorem stp_mono {P : List mM} {call : Nat → List Value → aH → Option (oR × aH)} (hc : ∀ y as h r, call y as h = some r → le2 h r.2) {M : mM} {c : cfg} {r : cfg ⊕ (oR × aH)} (hs : stp P call M c = some r) : le2 c.2.2.2 (hOf r) := by
  unfold stp at hs
  split at hs
  · cases hs
  · split at hs
    · cases hs; exact le2.refl _
    · exact sS_mono hc hs
theorem lp_mono {P : List mM} {call : Nat → List Value → aH → Option (oR × aH)} (hc : ∀ y as h r, call y as h = some r → le2 h r.2) {M : mM} : ∀ (k : Nat) {c : cfg} {r : oR × aH}, lp P call M k c = some r → le2 c.2.2.2 r.2
  | 0, _, _, hs => by cases hs
  | k + 1, c, r, hs => by
    unfold lp at hs
    split at hs
    · cases hs
    · rename_i c' hc'
      exact (stp_mono hc hc').trans (lp_mono hc k hs)
    · rename_i r' hc'
      cases hs
      exact stp_mono hc hc'
theorem cD_mono {P : List mM} : ∀ (d k y : Nat) (as : List Value) (h : aH) (r : oR × aH), cD P d k y as h = some r → le2 h r.2
  | 0, _, _, _, _, _, hs => by cases hs
  | d + 1, k, y, as, h, r, hs => by
    unfold cD at hs
    split at hs
    · cases hs
    · split at hs
      · exact lp_mono (fun y as h r hr => cD_mono d k y as h r hr) k hs
      · cases hs
