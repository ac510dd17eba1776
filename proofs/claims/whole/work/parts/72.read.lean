/-! ===== readers of the state, on both sides ===== -/
section READ
variable {i : MI} {a : Nat} {S : SS}
/-- x is a number below n -/
def okx (x : Int32) (n : Nat) : Bool := decide (¬ x < 0) && decide (x < nI n)
theorem okx_nI {f n : Nat} (hf : f < n) (hn : n < 2 ^ 31) : okx (nI f) n = true := by
  unfold okx
  rw [decide_eq_true (nI_pos (by omega)), decide_eq_true (nI_lt hf hn)]; rfl
theorem okx_of {x : Int32} {n : Nat} (hn : n < 2 ^ 31) (h : okx x n = true) : ∃ f, f < n ∧ x = nI f := by
  unfold okx at h
  simp only [Bool.and_eq_true, decide_eq_true_eq] at h
  obtain ⟨j, hj, rfl⟩ := nI_of h.1
  exact ⟨j, (nI_ltI hj hn).mp h.2, rfl⟩
theorem lt_pred {x : Int32} {n : Nat} (hn : n < 2 ^ 31) : nI n - 1 < x ↔ ¬ x < nI n := by
  have e : (nI n - 1).toInt = (n : Int) - 1 := by
    cases n with
    | zero => decide
    | succ m => rw [nI_pred, nI_toInt (by omega)]; omega
  rw [Int32.lt_iff_toInt_lt, Int32.lt_iff_toInt_lt, e, nI_toInt hn]
  omega
theorem mo_in {x : Int32} {n : Nat} (hn : n < 2 ^ 31) : f_Mo_in x 0 (nI n - 1) = some (if okx x n = true then 1 else 0) := by
  unfold f_Mo_in okx
  by_cases h : x < 0
  · simp [h]
  · rw [if_neg h]
    by_cases h2 : x < nI n
    · rw [if_neg (fun q => (lt_pred hn).mp q h2)]; simp [h, h2]
    · rw [if_pos ((lt_pred hn).mpr h2)]; simp [h2]
theorem mo_inL {x : Int32} (n : Nat) (hn : n + 1 < 2 ^ 31) : f_Mo_in x 0 (nI n) = some (if okx x (n + 1) = true then 1 else 0) := by
  rw [← mo_in hn, nI_pred]
theorem m_boats (h : MV i S) : f_Mo_boats i = some (S 0 0 1) := by unfold f_Mo_boats; rw [h.1 1 (by decide) (by decide)]
theorem m_buyers (h : MV i S) : f_Mo_buyers i = some (S 0 0 2) := by unfold f_Mo_buyers; rw [h.1 2 (by decide) (by decide)]
theorem m_deadOnes (h : MV i S) : f_Mo_deadOnes i = some (S 0 0 3) := by unfold f_Mo_deadOnes; rw [h.1 3 (by decide) (by decide)]
theorem m_noFish (hc : Cnt S) (h : MV i S) (x : Int32) : f_Mo_noFish i x = some (if okx x (nf S) = true then 0 else 1) := by
  have := hc.f8
  unfold f_Mo_noFish
  rw [m_fishes h, Option.bind_some, hc.f, mo_in (by omega), Option.bind_some]
  by_cases q : okx x (nf S) = true <;> simp [q]
theorem m_noBoat (hc : Cnt S) (h : MV i S) (x : Int32) : f_Mo_noBoat i x = some (if okx x (nb S) = true then 0 else 1) := by
  have := hc.b3
  unfold f_Mo_noBoat
  rw [m_boats h, Option.bind_some, hc.b, mo_in (by omega), Option.bind_some]
  by_cases q : okx x (nb S) = true <;> simp [q]
theorem m_noBuyer (hc : Cnt S) (h : MV i S) (x : Int32) : f_Mo_noBuyer i x = some (if okx x (ny S) = true then 0 else 1) := by
  have := hc.y5
  unfold f_Mo_noBuyer
  rw [m_buyers h, Option.bind_some, hc.y, mo_in (by omega), Option.bind_some]
  by_cases q : okx x (ny S) = true <;> simp [q]
theorem m_noCell (x : Int32) : f_Mo_noCell x = some (if okx x 25 = true then 0 else 1) := by
  unfold f_Mo_noCell
  rw [lit_nI 24, mo_inL 24 (by decide), Option.bind_some]
  by_cases q : okx x 25 = true <;> simp [q]
theorem v_needFish (hc : Cnt S) (h : CV i 1001 S) (x : Int32) : f_Lc_needFish i x = some (if okx x (nf S) = true then .inl () else .inr 22) := by
  unfold f_Lc_needFish okx
  rw [h.1.1, hc.f]
  by_cases q : x < 0
  · simp [q]
  · by_cases q2 : x < nI (nf S) <;> simp [q, q2]
theorem v_needBoat (hc : Cnt S) (h : CV i 1001 S) (x : Int32) : f_Lc_needBoat i x = some (if okx x (nb S) = true then .inl () else .inr 22) := by
  unfold f_Lc_needBoat okx
  rw [h.1.2.1, hc.b]
  by_cases q : x < 0
  · simp [q]
  · by_cases q2 : x < nI (nb S) <;> simp [q, q2]
theorem v_needBuyer (hc : Cnt S) (h : CV i 1001 S) (x : Int32) : f_Lc_needBuyer i x = some (if okx x (ny S) = true then .inl () else .inr 22) := by
  unfold f_Lc_needBuyer okx
  rw [h.1.2.2.1, hc.y]
  by_cases q : x < 0
  · simp [q]
  · by_cases q2 : x < nI (ny S) <;> simp [q, q2]
theorem v_needCell (x : Int32) : f_Lc_needCell x = some (if okx x 25 = true then .inl () else .inr 22) := by
  unfold f_Lc_needCell okx
  rw [lit_nI 25]
  by_cases q : x < 0
  · simp [q]
  · by_cases q2 : x < nI 25 <;> simp [q, q2]
theorem v_needKind (x : Int32) : f_Lc_needKind x = some (if okx x 4 = true then .inl () else .inr 22) := by
  unfold f_Lc_needKind okx
  rw [lit_nI 4]
  by_cases q : x < 0
  · simp [q]
  · by_cases q2 : x < nI 4 <;> simp [q, q2]
/-! currents -/
def bes (c w : Int32) : Int32 := (f_Mo_beside c w).getD 0
theorem mo_beside (c w : Int32) : f_Mo_beside c w = some (bes c w) := by
  unfold bes f_Mo_beside
  simp only [sw]
  repeat' split
  all_goals rfl
def sdr (S : SS) (c : Int32) : Int32 := bes c (S 1 0 (ix c))
theorem bes_lt : ∀ c, c < 25 → ∀ w, w < 5 → (bes (nI c) (nI w)).toNatClampNeg < 25 ∧ bes (nI c) (nI w) = nI (bes (nI c) (nI w)).toNatClampNeg := by decide +kernel
theorem bes_c : ∀ c, c < 25 → ∀ w, w < 5 → (f_Se_beside (nI c) (nI w)).bind (fun v => if v = (-1 : Int32) then some (nI c) else some v) = some (bes (nI c) (nI w)) := by decide +kernel
theorem sdr_lt (hw : Wf S) {c : Nat} (hc : c < 25) : ∃ c', c' < 25 ∧ sdr S (nI c) = nI c' := by
  obtain ⟨w, hw5, e⟩ := hw.2.1 c hc
  unfold sdr
  rw [ix_nI (by omega), e]
  exact ⟨_, (bes_lt c hc w hw5).1, (bes_lt c hc w hw5).2⟩
theorem m_drift (h : MV i S) {c : Nat} (hc : c < 25) : f_Mo_driftOf i (nI c) = some (sdr S (nI c)) := by
  unfold f_Mo_driftOf sdr
  rw [lit_nI 11, nI_add, grd_nI (by omega) (by omega), ix_nI (by omega), ix_nI (by omega), h.2.1 c hc, mo_beside]
  rfl
theorem v_drift (hw : Wf S) (h : CV i a S) {c : Nat} (hc : c < 25) : f_Se_drift i a (nI c) = some (sdr S (nI c)) := by
  obtain ⟨w, hw5, e⟩ := hw.2.1 c hc
  unfold f_Se_drift sdr
  rw [if_neg (nI_pos (by omega)), lit_nI 25, if_pos (nI_lt hc (by omega)), grd_nI hc (by omega), ix_nI (by omega), h.2.1 c hc, e]
  exact bes_c c hc w hw5
/-! more sets -/
theorem m_boat (h : MV i S) {b k : Nat} (hf : b < 3) (hk : k < 3) : f_Mo_ofBoat i (nI b) (nI k) = some (S 3 b k) := by
  have e : (76 : Int32) + (3 : Int32) * nI b + nI k = nI (76 + 3 * b + k) := by rw [lit_nI 76, lit_nI 3, mul_nI, nI_add, nI_add]
  unfold f_Mo_ofBoat f_Mo_boatAt
  simp only [Option.bind_some, e]
  rw [grd_nI (by omega) (by omega), ix_nI (by omega), h.2.2.2.1 b hf k hk]
theorem m_buyer (h : MV i S) {y k : Nat} (hf : y < 5) (hk : k < 4) : f_Mo_ofBuyer i (nI y) (nI k) = some (S 4 y k) := by
  have e : (85 : Int32) + (4 : Int32) * nI y + nI k = nI (85 + 4 * y + k) := by rw [lit_nI 85, lit_nI 4, mul_nI, nI_add, nI_add]
  unfold f_Mo_ofBuyer f_Mo_buyerAt
  simp only [Option.bind_some, e]
  rw [grd_nI (by omega) (by omega), ix_nI (by omega), h.2.2.2.2.1 y hf k hk]
theorem m_dead (h : MV i S) {d k : Nat} (hf : d < 6) (hk : k < 2) : f_Mo_ofDead i (nI d) (nI k) = some (S 5 d k) := by
  have e : (105 : Int32) + (2 : Int32) * nI d + nI k = nI (105 + 2 * d + k) := by rw [lit_nI 105, lit_nI 2, mul_nI, nI_add, nI_add]
  unfold f_Mo_ofDead
  simp only [e]
  rw [grd_nI (by omega) (by omega), ix_nI (by omega), h.2.2.2.2.2.1 d hf k hk]
theorem m_aboard (hc : Cnt S) (h : MV i S) (p : Int32) : f_Mo_aboard i p = some (nI (abd S p)) := by
  unfold f_Mo_aboard
  have h8 := hc.f8
  rw [show (((0 : Int32), (0 : Int32)) : Int32 × Int32) = (nI 0, nI 0) from rfl, itr_bits (fun f => decide (S 2 f 3 = 1 ∧ S 2 f 4 = p)) (nf S) h8]
  · rfl
  · intro j hj m
    dsimp only
    rw [m_fishes h, hc.f, Option.bind_some, if_pos (nI_lt hj (by omega)), lit_nI 3, lit_nI 4, m_of h (by omega) (by omega), Option.bind_some]
    by_cases hp : S 2 j 3 = 1
    · simp only [hp, if_true]
      rw [m_of h (by omega) (by omega)]
      by_cases hq : S 2 j 4 = p <;> simp [hq, nI_succ]
    · simp [hp, nI_succ]
  · intro m
    dsimp only
    rw [m_fishes h, hc.f, Option.bind_some, if_neg (nI_nlt (Nat.le_refl _) (by omega))]
theorem v_aboard (hc : Cnt S) (h : CV i a S) (p : Int32) : f_Se_aboard i a p = some (nI (abd S p)) := by
  unfold f_Se_aboard
  have h8 := hc.f8
  rw [show (((0 : Int32), (0 : Int32)) : Int32 × Int32) = (nI 0, nI 0) from rfl, itr_bits (fun f => decide (S 2 f 3 = 1 ∧ S 2 f 4 = p)) (nf S) h8]
  · rfl
  · intro j hj m
    have h2 : ix (nI j) = j := ix_nI (by omega)
    have hf := h.2.2.1 j hj
    dsimp only
    rw [h.1.1, hc.f, if_pos (nI_lt hj (by omega)), grd_nI (by omega) (by omega), h2, hf.2.2.2.1, hf.2.2.2.2.2]
    unfold abo
    by_cases hp : S 2 j 3 = 1
    · by_cases hq : S 2 j 4 = p <;> simp [hp, hq, nI_succ]
    · simp [hp, nI_succ]
  · intro m
    dsimp only
    rw [h.1.1, hc.f, if_neg (nI_nlt (Nat.le_refl _) (by omega))]
def swm (S : SS) (c : Int32) : Nat := bits (fun f => decide (S 2 f 3 = 0 ∧ S 2 f 4 = c)) (nf S)
theorem m_fishIn (hc : Cnt S) (h : MV i S) (p : Int32) : f_Mo_fishIn i p = some (nI (swm S p)) := by
  unfold f_Mo_fishIn
  have h8 := hc.f8
  rw [show (((0 : Int32), (0 : Int32)) : Int32 × Int32) = (nI 0, nI 0) from rfl, itr_bits (fun f => decide (S 2 f 3 = 0 ∧ S 2 f 4 = p)) (nf S) h8]
  · rfl
  · intro j hj m
    dsimp only
    rw [m_fishes h, hc.f, Option.bind_some, if_pos (nI_lt hj (by omega)), lit_nI 3, lit_nI 4, m_of h (by omega) (by omega), Option.bind_some]
    by_cases hp : S 2 j 3 = 0
    · simp only [hp, if_true]
      rw [m_of h (by omega) (by omega)]
      by_cases hq : S 2 j 4 = p <;> simp [hq, nI_succ]
    · simp [hp, nI_succ]
  · intro m
    dsimp only
    rw [m_fishes h, hc.f, Option.bind_some, if_neg (nI_nlt (Nat.le_refl _) (by omega))]
theorem v_swimming (hc : Cnt S) (h : CV i a S) (p : Int32) : f_Se_swimmingAt i a p = some (nI (swm S p)) := by
  unfold f_Se_swimmingAt
  have h8 := hc.f8
  rw [show (((0 : Int32), (0 : Int32)) : Int32 × Int32) = (nI 0, nI 0) from rfl, itr_bits (fun f => decide (S 2 f 3 = 0 ∧ S 2 f 4 = p)) (nf S) h8]
  · rfl
  · intro j hj m
    have h2 : ix (nI j) = j := ix_nI (by omega)
    have hf := h.2.2.1 j hj
    dsimp only
    rw [h.1.1, hc.f, if_pos (nI_lt hj (by omega)), grd_nI (by omega) (by omega), h2, hf.2.2.2.1, hf.2.2.2.2.1]
    unfold spo
    by_cases hp : S 2 j 3 = 0
    · by_cases hq : S 2 j 4 = p <;> simp [hp, hq, nI_succ]
    · simp [hp, nI_succ]
  · intro m
    dsimp only
    rw [h.1.1, hc.f, if_neg (nI_nlt (Nat.le_refl _) (by omega))]
/-! sums over buyers -/
def mny (S : SS) : Int32 := fo (fun y x => x + S 4 y 1) (ny S) 0
theorem m_money (hc : Cnt S) (h : MV i S) : f_Mo_moneyOfAll i = some (mny S) := by
  unfold f_Mo_moneyOfAll mny
  have h5 := hc.y5
  refine (itr_bind (itr_fo (fun j x => (x, nI j)) (fun y x => x + S 4 y 1) (ny S) 0 (y := fo (fun y x => x + S 4 y 1) (ny S) 0) ?_ ?_ (by omega) rfl)).trans rfl
  · intro j x hj _
    dsimp only
    rw [m_buyers h, hc.y, Option.bind_some, if_pos (nI_lt hj (by omega)), lit_nI 1, m_buyer h (by omega) (by omega), Option.bind_some, nI_add]
  · dsimp only
    rw [m_buyers h, hc.y, Option.bind_some, if_neg (nI_nlt (Nat.le_refl _) (by omega))]
theorem v_money (hc : Cnt S) (h : CV i a S) : f_Se_moneyOfAll i a = some (mny S) := by
  unfold f_Se_moneyOfAll mny
  have h5 := hc.y5
  refine (itr_bind (itr_fo (fun j x => (x, nI j)) (fun y x => x + S 4 y 1) (ny S) 0 (y := fo (fun y x => x + S 4 y 1) (ny S) 0) ?_ ?_ (by omega) rfl)).trans rfl
  · intro j x hj _
    dsimp only
    rw [h.1.2.2.1, hc.y, if_pos (nI_lt hj (by omega)), grd_nI (by omega) (by omega), ix_nI (by omega), (h.2.2.2.2.1 j hj).2.1, lit_nI 1, nI_add]
  · dsimp only
    rw [h.1.2.2.1, hc.y, if_neg (nI_nlt (Nat.le_refl _) (by omega))]
end READ
