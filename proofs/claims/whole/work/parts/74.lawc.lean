/-! ===== the class's reckoning of the law ===== -/
def lso (L : LW) (k : Nat) : Int32 := (L.2.2 k).1
def lam (L : LW) (k : Nat) : Int32 := (L.2.2 k).2.1
def lm (L : LW) (k : Nat) : Nat := (L.2.2 k).2.2.1
def lcd (L : LW) (k : Nat) : Nat → Int32 := (L.2.2 k).2.2.2
def WL (L : LW) : Prop := L.2.1 ≤ 12 ∧ (L.1 = false → L.2.1 = 0) ∧ ∀ k, k < L.2.1 → (∃ z, z < 3 ∧ lso L k = nI z) ∧ (∃ z, z ≤ 99 ∧ lam L k = nI z) ∧ lm L k ≤ 400 ∧ (lm L k = 0 ∨ ∃ ty, tc (lcd L k) (lm L k) 1 ty ∧ ty 0 = true)
/-- the class's law at l -/
def CL (t : MT) (i : MI) (l : Nat) (L : LW) : Prop := i l 0 = (if L.1 = true then nI L.2.1 else -1) ∧ (L.2.1 ≤ (t (l + 2)).2 ∧ (t (l + 2)).2 ≤ 12) ∧ (L.2.1 ≤ (t (l + 3)).2 ∧ (t (l + 3)).2 ≤ 12) ∧ (L.2.1 + 1 ≤ (t (l + 4)).2 ∧ (t (l + 4)).2 ≤ 13) ∧ (t (l + 5)).2 ≤ 400 ∧
  ∀ k, k < L.2.1 → i (l + 2) k = lso L k ∧ i (l + 3) k = lam L k ∧ ∃ g, i (l + 4) k = nI g ∧ i (l + 4) (k + 1) = nI (g + lm L k) ∧ g + lm L k ≤ (t (l + 5)).2 ∧ ∀ q, q < lm L k → i (l + 5) (g + q) = lcd L k q
def hld (S : SS) (f : Nat) (ly : Int32) (L : LW) (k : Nat) : Bool := decide (lm L k = 0 ∨ ¬ (evs (fct S f ly) (lcd L k) (lm L k)).2 0 = 0)
def lsum (S : SS) (L : LW) (w : Int32) (f : Nat) (ly : Int32) : Int32 := fo (fun k x => if lso L k = w ∧ hld S f ly L k = true then x + lam L k else x) L.2.1 0
section LAWC
variable {i i' : MI} {t : MT} {a l : Nat} {S : SS} {L : LW}
theorem CV.congr (h : CV i a S) (he : ∀ b k, a ≤ b → b < a + 31 → i' b k = i b k) (hc : Cnt S) : CV i' a S := by
  obtain ⟨⟨a1, a2, a3, a4, a5, a6, a7, a8, a9⟩, h2, h3, h4, h5, h6, h7, x, hx, h8, h9⟩ := h
  have := hc.f8; have := hc.b3; have := hc.y5; have := hc.d6
  refine ⟨⟨?_, ?_, ?_, ?_, ?_, ?_, ?_, ?_, ?_⟩, fun c hc => ?_, fun f hf => ?_, fun b hb => ?_, fun y hy => ?_, fun d hd => ?_, ?_, x, hx, ?_, fun g hg k hk => ?_⟩
  · rw [he _ _ (by omega) (by omega)]; exact a1
  · rw [he _ _ (by omega) (by omega)]; exact a2
  · rw [he _ _ (by omega) (by omega)]; exact a3
  · rw [he _ _ (by omega) (by omega)]; exact a4
  · rw [he _ _ (by omega) (by omega)]; exact a5
  · rw [he _ _ (by omega) (by omega)]; exact a6
  · rw [he _ _ (by omega) (by omega)]; exact a7
  · rw [he _ _ (by omega) (by omega)]; exact a8
  · rw [he _ _ (by omega) (by omega)]; exact a9
  · rw [he _ _ (by omega) (by omega)]; exact h2 c hc
  · simp only [he (a + 3 + f) _ (by omega) (by omega)]; exact h3 f hf
  · simp only [he (a + 12 + b) _ (by omega) (by omega)]; exact h4 b hb
  · simp only [he (a + 16 + y) _ (by omega) (by omega)]; exact h5 y hy
  · simp only [he (a + 22 + d) _ (by omega) (by omega)]; exact h6 d hd
  · rw [he _ _ (by omega) (by omega)]; exact h7
  · rw [he _ _ (by omega) (by omega)]; exact h8
  · rw [he _ _ (by omega) (by omega)]; exact h9 g hg k hk
theorem CL.congr (h : CL t i l L) (he : ∀ b k, b = l ∨ (l + 2 ≤ b ∧ b < l + 6) → i' b k = i b k) : CL t i' l L := by
  obtain ⟨h1, h2, h3, h4, h5, h6⟩ := h
  refine ⟨by rw [he _ _ (Or.inl rfl)]; exact h1, h2, h3, h4, h5, fun k hk => ?_⟩
  obtain ⟨q1, q2, g, q3, q4, q5, q6⟩ := h6 k hk
  refine ⟨by rw [he _ _ (by omega)]; exact q1, by rw [he _ _ (by omega)]; exact q2, g, by rw [he _ _ (by omega)]; exact q3, by rw [he _ _ (by omega)]; exact q4, q5, fun q hq => by rw [he _ _ (by omega)]; exact q6 q hq⟩
theorem neg10 {P : Int32 → Prop} (h1 : P (-1)) (h2 : P (-2)) (h3 : P (-3)) (h4 : P (-4)) (h5 : P (-5)) (h6 : P (-6)) (h7 : P (-7)) (h8 : P (-8)) (h9 : P (-9)) (h10 : P (-10)) : ∀ z, 1 ≤ z → z ≤ 10 → P (-nI z)
  | 0, h, _ => by omega
  | 1, _, _ => h1
  | 2, _, _ => h2
  | 3, _, _ => h3
  | 4, _, _ => h4
  | 5, _, _ => h5
  | 6, _, _ => h6
  | 7, _, _ => h7
  | 8, _, _ => h8
  | 9, _, _ => h9
  | 10, _, _ => h10
  | n + 11, _, h => by omega
theorem fct_nI {f z : Nat} {ly : Int32} (hz : z ≤ 999) : fct S f ly (nI z) = nI z := by
  have hne : ∀ m : Nat, 1 ≤ m → m ≤ 10 → nI z ≠ -nI m := by
    intro m h1 h2 q
    have e : (nI z).toInt = z := nI_toInt (by omega)
    have e2 : (-nI m).toInt = -(m : Int) := (by decide +kernel : ∀ m, m < 11 → (-nI m).toInt = -(m : Int)) m (by omega)
    have := congrArg Int32.toInt q
    rw [e, e2] at this
    omega
  unfold fct
  have n1 : ¬ nI z = -1 := hne 1 (by decide) (by decide)
  have n2 : ¬ nI z = -2 := hne 2 (by decide) (by decide)
  have n3 : ¬ nI z = -3 := hne 3 (by decide) (by decide)
  have n4 : ¬ nI z = -4 := hne 4 (by decide) (by decide)
  have n5 : ¬ nI z = -5 := hne 5 (by decide) (by decide)
  have n6 : ¬ nI z = -6 := hne 6 (by decide) (by decide)
  have n7 : ¬ nI z = -7 := hne 7 (by decide) (by decide)
  have n8 : ¬ nI z = -8 := hne 8 (by decide) (by decide)
  have n9 : ¬ nI z = -9 := hne 9 (by decide) (by decide)
  have n10 : ¬ nI z = -10 := hne 10 (by decide) (by decide)
  rw [if_neg n1, if_neg n2, if_neg n3, if_neg n4, if_neg n5, if_neg n6, if_neg n7, if_neg n8, if_neg n9, if_neg n10]
theorem lf_lt {s : Int32} (h : lf s) : (-12 : Int32) < s ∧ (-11 : Int32) < s := by
  rcases h with ⟨z, hz, rfl⟩ | ⟨z, h1, h2, rfl⟩
  · constructor <;> (rw [Int32.lt_iff_toInt_lt, nI_toInt (by omega)]; show (_ : Int) < _; simp; omega)
  · exact neg10 (P := fun s => (-12 : Int32) < s ∧ (-11 : Int32) < s) (by decide) (by decide) (by decide) (by decide) (by decide) (by decide) (by decide) (by decide) (by decide) (by decide) z h1 h2
theorem sw_out {α : Type} {x : Int32} {d : Option α} : ∀ (os : List (Option α)) (lo : Int), lo + os.length ≤ x.toInt → sw x lo os d = d
  | [], _, _ => rfl
  | o :: os, lo, h => by
    simp only [List.length_cons] at h
    unfold sw
    rw [if_neg (by omega), sw_out os (lo + 1) (by omega)]
theorem cl_fact (hc : Cnt S) (h : CV i a S) {f : Nat} (hf : f < nf S) {s ly y1 y2 : Int32} (hs : lf s) : sw s (-16) [(some (y1 ||| y2)), (some (y1 &&& y2)), ((if y2 < y1 then (some (1 : Int32)) else (some (0 : Int32)) : Option (Int32)).bind (fun y_42 => some y_42)), ((if y1 < y2 then (some (1 : Int32)) else (some (0 : Int32)) : Option (Int32)).bind (fun y_46 => some y_46)), (some (y1 + y2)), (some ((1 : Int32) - y1)), (grd (nI f) 8 ((if (i (a + 3 + (ix (nI f))) 1) < (7 : Int32) then (some (0 : Int32)) else (some (1 : Int32)) : Option (Int32)).bind (fun y_54 => some y_54))), (grd (nI f) 8 ((if (i (a + 3 + (ix (nI f))) 3) = (2 : Int32) then (some (1 : Int32)) else (some (0 : Int32)) : Option (Int32)).bind (fun y_60 => some y_60))), ((if 0 < (i a 12) then (some (1 : Int32)) else (some (0 : Int32)) : Option (Int32)).bind (fun y_64 => some y_64)), (some (rm (i a 14) (100 : Int32))), (some ly), (some (i a 12)), (grd (nI f) 8 (some (i (a + 3 + (ix (nI f))) 2))), (grd (nI f) 8 (some (i (a + 3 + (ix (nI f))) 1))), (grd (nI f) 8 (some (i (a + 3 + (ix (nI f))) 0))), (some (nI f))] ((some s)) = some (fct S f ly s) := by
  have h8 := hc.f8
  obtain ⟨f0, f1, f2, f3, -⟩ := h.2.2.1 f hf
  have e6 : i a 12 = S 0 0 6 := h.1.2.2.2.2.2.1
  have e8 : i a 14 = S 0 0 8 := h.1.2.2.2.2.2.2.2.1
  simp only [grd_nI (show f < 8 by omega) (show 8 ≤ 2 ^ 31 by decide), ix_nI (show f < 2 ^ 31 by omega), f0, f1, f2, f3, e6, e8]
  rcases hs with ⟨z, hz, rfl⟩ | ⟨z, h1, h2, rfl⟩
  · rw [fct_nI hz, sw_out _ _ (by rw [nI_toInt (by omega)]; show (-16 : Int) + 16 ≤ _; omega)]
  · rcases (show z = 1 ∨ z = 2 ∨ z = 3 ∨ z = 4 ∨ z = 5 ∨ z = 6 ∨ z = 7 ∨ z = 8 ∨ z = 9 ∨ z = 10 by omega) with rfl | rfl | rfl | rfl | rfl | rfl | rfl | rfl | rfl | rfl
    · rfl
    · rfl
    · rfl
    · rfl
    · rfl
    · rfl
    · rfl
    · show Option.bind (if 0 < S 0 0 6 then some (1 : Int32) else some 0) (fun y => some y) = some (if 0 < S 0 0 6 then 1 else 0)
      split <;> rfl
    · show Option.bind (if S 2 f 3 = 2 then some (1 : Int32) else some 0) (fun y => some y) = some (if S 2 f 3 = 2 then 1 else 0)
      split <;> rfl
    · show Option.bind (if S 2 f 1 < 7 then some (0 : Int32) else some 1) (fun y => some y) = some (if S 2 f 1 < 7 then 0 else 1)
      split <;> rfl
end LAWC
