/-! ===== the best way of a boat ===== -/
def dfl (S : SS) (d f : Nat) : Int32 := if S 2 f 3 = 0 then sit S (S 2 f 4) d else -1
def hrm (S : SS) (b : Nat) : Int32 := S 3 b 2 - bc (abd S (nI b))
def ck (S : SS) (b d c f u : Nat) : Nat := if u.testBit f = false ∧ dfl S d f = nI c ∧ 0 < hrm S b - bc u then setb u f else u
def cu (S : SS) (b d c m q : Nat) : Nat := fo (ck S b d c) q m
def ssz (S : SS) (T q : Nat) : Nat := fo (fun f x => if T.testBit f = true then x + (S 2 f 1).toNatClampNeg else x) q 0
def hgo (c v : Nat) : Nat := ix (bes (nI c) (nI v))
def hbad (c v : Nat) : Bool := decide (v ≠ 4) && decide (hgo c v = c)
def hway (S : SS) (b : Nat) : Nat → Nat → Nat → Nat → Nat → Nat
  | 0, _, _, _, _ => 1
  | n + 1, d, c, m, w => if hbad c (w / 5 ^ n) = true then 0 else if hway S b n (d + 1) (hgo c (w / 5 ^ n)) (cu S b (d + 1) (hgo c (w / 5 ^ n)) m (nf S)) (w % 5 ^ n) = 0 then 0 else hway S b n (d + 1) (hgo c (w / 5 ^ n)) (cu S b (d + 1) (hgo c (w / 5 ^ n)) m (nf S)) (w % 5 ^ n) + ssz S (dif (cu S b (d + 1) (hgo c (w / 5 ^ n)) m (nf S)) m) (nf S)
def hM (S : SS) (b n d c m : Nat) : Nat := mxN (fun _ => true) (hway S b n d c m) (5 ^ n) 0
def hY (S : SS) (b n d c m v : Nat) : Nat := if hbad c v = true then 0 else hM S b n (d + 1) (hgo c v) (cu S b (d + 1) (hgo c v) m (nf S)) + ssz S (dif (cu S b (d + 1) (hgo c v) m (nf S)) m) (nf S)
def pm (a : Nat) : Int32 := nI a - 1
theorem pm_s (a : Nat) : pm (a + 1) = nI a := nI_pred a
theorem pm_0 : pm 0 = -1 := by decide
theorem pm_lt {a b : Nat} (ha : a < 2 ^ 31) (hb : b < 2 ^ 31) : pm a < pm b ↔ a < b := by
  have e : ∀ n, n < 2 ^ 31 → (pm n).toInt = (n : Int) - 1 := fun n hn => by
    cases n with
    | zero => decide
    | succ m => rw [pm_s, nI_toInt (by omega)]; omega
  rw [Int32.lt_iff_toInt_lt, e a ha, e b hb]
  omega
/-- the first that is better than all before -/
def bst (g : Nat → Nat) (n : Nat) : Nat × Option Nat := fo (fun f x => if x.1 < g f then (g f, some f) else x) n (0, none)
theorem bst_sp (g : Nat → Nat) : ∀ n, (bst g n).1 = mxN (fun _ => true) g n 0 ∧ (((bst g n).1 = 0 ∧ (bst g n).2 = none) ∨ ∃ v, v < n ∧ (bst g n).2 = some v ∧ 0 < (bst g n).1 ∧ g v = (bst g n).1 ∧ ∀ k, k < v → g k < (bst g n).1)
  | 0 => ⟨rfl, Or.inl ⟨rfl, rfl⟩⟩
  | n + 1 => by
    obtain ⟨h1, h2⟩ := bst_sp g n
    have e : bst g (n + 1) = if (bst g n).1 < g n then (g n, some n) else bst g n := rfl
    have hall : ∀ k, k < n → g k ≤ (bst g n).1 := fun k hk => by rw [h1]; exact mxN_ge (p := fun _ => true) n k hk rfl
    rw [mxN_s, if_pos rfl, e, ← h1]
    by_cases c : (bst g n).1 < g n
    · rw [if_pos c]
      exact ⟨(Nat.max_eq_right (by omega)).symm, Or.inr ⟨n, by omega, rfl, by show 0 < g n; omega, rfl, fun k hk => Nat.lt_of_le_of_lt (hall k hk) c⟩⟩
    · rw [if_neg c]
      refine ⟨(Nat.max_eq_left (by omega)).symm, ?_⟩
      rcases h2 with h3 | ⟨v, h3, h4⟩
      · exact Or.inl h3
      · exact Or.inr ⟨v, by omega, h4⟩
section HAUL
variable {S : SS}
theorem hgo_lt : ∀ c, c < 25 → ∀ v, v < 5 → hgo c v < 25 ∧ bes (nI c) (nI v) = nI (hgo c v) := by decide +kernel
theorem hgo_4 : ∀ c, c < 25 → hgo c 4 = c := by decide +kernel
theorem hse : ∀ c, c < 25 → ∀ v, v < 5 → f_Se_beside (nI c) (nI v) = some (if hbad c v = true then -1 else nI (hgo c v)) := by decide +kernel
theorem ck_lt (hc : Cnt S) {b d c f u : Nat} (hf : f < nf S) (hu : u < 2 ^ nf S) : ck S b d c f u < 2 ^ nf S := by
  unfold ck
  split
  · exact setb_ltn hu hf
  · exact hu
theorem cu_lt (hc : Cnt S) {b d c m : Nat} (hm : m < 2 ^ nf S) : ∀ q, q ≤ nf S → cu S b d c m q < 2 ^ nf S
  | 0, _ => hm
  | q + 1, hq => ck_lt hc (by omega) (cu_lt hc hm q (by omega))
theorem cu_t {b d c m : Nat} : ∀ q, (∀ f, q ≤ f → (cu S b d c m q).testBit f = m.testBit f) ∧ ∀ f, m.testBit f = true → (cu S b d c m q).testBit f = true
  | 0 => ⟨fun _ _ => rfl, fun _ h => h⟩
  | q + 1 => by
    obtain ⟨h1, h2⟩ := cu_t (b := b) (d := d) (c := c) (m := m) q
    have e : cu S b d c m (q + 1) = ck S b d c q (cu S b d c m q) := rfl
    rw [e]
    unfold ck
    split
    · refine ⟨fun f hf => ?_, fun f hf => ?_⟩
      · rw [setb_t, decide_eq_false (by omega : ¬ q = f), Bool.or_false]; exact h1 f (by omega)
      · rw [setb_t, h2 f hf]; rfl
    · exact ⟨fun f hf => h1 f (by omega), h2⟩
theorem ssz_le (hw : Wf S) {T : Nat} : ∀ q, q ≤ nf S → ssz S T q ≤ 9 * q
  | 0, _ => Nat.le_refl _
  | q + 1, hq => by
    have ih := ssz_le hw (T := T) q (by omega)
    obtain ⟨-, -, s⟩ := sz_n hw (show q < nf S by omega)
    have e : ssz S T (q + 1) = if T.testBit q = true then ssz S T q + (S 2 q 1).toNatClampNeg else ssz S T q := rfl
    rw [e]
    split <;> omega
theorem ssz_72 (hw : Wf S) (T : Nat) : ssz S T (nf S) ≤ 72 := by
  have h8 := hw.1.f8
  have := ssz_le hw (T := T) (nf S) (Nat.le_refl _)
  omega
theorem ssz_congr {T T' : Nat} : ∀ q, (∀ f, f < q → T.testBit f = T'.testBit f) → ssz S T q = ssz S T' q
  | 0, _ => rfl
  | q + 1, h => by
    have e : ∀ T, ssz S T (q + 1) = if T.testBit q = true then ssz S T q + (S 2 q 1).toNatClampNeg else ssz S T q := fun _ => rfl
    rw [e, e, ssz_congr q (fun f hf => h f (by omega)), h q (by omega)]
theorem hway_s {b n d c m w : Nat} : hway S b (n + 1) d c m w = if hbad c (w / 5 ^ n) = true then 0 else if hway S b n (d + 1) (hgo c (w / 5 ^ n)) (cu S b (d + 1) (hgo c (w / 5 ^ n)) m (nf S)) (w % 5 ^ n) = 0 then 0 else hway S b n (d + 1) (hgo c (w / 5 ^ n)) (cu S b (d + 1) (hgo c (w / 5 ^ n)) m (nf S)) (w % 5 ^ n) + ssz S (dif (cu S b (d + 1) (hgo c (w / 5 ^ n)) m (nf S)) m) (nf S) := rfl
theorem hway_le (hw : Wf S) {b : Nat} : ∀ n d c m w, hway S b n d c m w ≤ 1 + 72 * n
  | 0, _, _, _, _ => Nat.le_refl _
  | n + 1, d, c, m, w => by
    have ih := hway_le hw (b := b) n (d + 1) (hgo c (w / 5 ^ n)) (cu S b (d + 1) (hgo c (w / 5 ^ n)) m (nf S)) (w % 5 ^ n)
    have h2 := ssz_72 hw (dif (cu S b (d + 1) (hgo c (w / 5 ^ n)) m (nf S)) m)
    rw [hway_s]
    split
    · omega
    · split <;> omega
theorem hM_le (hw : Wf S) (b n d c m : Nat) : hM S b n d c m ≤ 1 + 72 * n := mxN_le (by omega) _ (fun w _ _ => hway_le hw n d c m w)
theorem hM_up {b n d c m : Nat} : hM S b (n + 1) d c m ≤ mxN (fun _ => true) (hY S b n d c m) 5 0 := by
  have h5 := Nat.pow_pos (a := 5) (n := n) (by decide)
  refine mxN_le (Nat.zero_le _) _ (fun w hw _ => ?_)
  rw [Nat.pow_succ] at hw
  have hv : w / 5 ^ n < 5 := Nat.div_lt_of_lt_mul (by omega)
  refine Nat.le_trans ?_ (mxN_ge (p := fun _ => true) (v := hY S b n d c m) 5 (w / 5 ^ n) hv rfl)
  have hr : w % 5 ^ n < 5 ^ n := Nat.mod_lt _ h5
  have hge := mxN_ge (p := fun _ => true) (v := hway S b n (d + 1) (hgo c (w / 5 ^ n)) (cu S b (d + 1) (hgo c (w / 5 ^ n)) m (nf S))) (x0 := 0) (5 ^ n) (w % 5 ^ n) hr rfl
  rw [hway_s]
  unfold hY hM
  by_cases c1 : hbad c (w / 5 ^ n) = true
  · rw [if_pos c1]; exact Nat.zero_le _
  · rw [if_neg c1, if_neg c1]
    split <;> omega
theorem blk {n v w : Nat} (hw : w < 5 ^ n) : (5 ^ n * v + w) / 5 ^ n = v ∧ (5 ^ n * v + w) % 5 ^ n = w := by
  have h5 := Nat.pow_pos (a := 5) (n := n) (by decide)
  constructor
  · rw [Nat.mul_add_div h5, Nat.div_eq_of_lt hw, Nat.add_zero]
  · rw [Nat.mul_add_mod, Nat.mod_eq_of_lt hw]
/-- in each block some way is as good as the block's best -/
theorem hY_at {b n d c m v : Nat} (hpos : 1 ≤ hM S b n (d + 1) (hgo c v) (cu S b (d + 1) (hgo c v) m (nf S))) : ∃ w, w < 5 ^ n ∧ hway S b (n + 1) d c m (5 ^ n * v + w) = hY S b n d c m v := by
  have h5 := Nat.pow_pos (a := 5) (n := n) (by decide)
  unfold hY
  by_cases c1 : hbad c v = true
  · obtain ⟨b1, b2⟩ := blk (n := n) (v := v) h5
    exact ⟨0, h5, by rw [hway_s, b1, b2, if_pos c1, if_pos c1]⟩
  · rcases mxN_at (p := fun _ => true) (v := hway S b n (d + 1) (hgo c v) (cu S b (d + 1) (hgo c v) m (nf S))) (x0 := 0) (5 ^ n) with h | ⟨w, h1, -, h3⟩
    · unfold hM at hpos; omega
    · obtain ⟨b1, b2⟩ := blk (n := n) (v := v) h1
      refine ⟨w, h1, ?_⟩
      unfold hM at hpos ⊢
      rw [hway_s, b1, b2, if_neg c1, if_neg c1, h3, if_neg (by omega)]
theorem hM_pos {b : Nat} : ∀ n d c m, c < 25 → 1 ≤ hM S b n d c m
  | 0, d, c, m, _ => mxN_ge (p := fun _ => true) (v := hway S b 0 d c m) (5 ^ 0) 0 (by decide) rfl
  | n + 1, d, c, m, hc => by
    have e4 := hgo_4 c hc
    have ih := hM_pos (b := b) n (d + 1) (hgo c 4) (cu S b (d + 1) (hgo c 4) m (nf S)) (by rw [e4]; exact hc)
    obtain ⟨w, h1, h2⟩ := hY_at (m := m) ih
    have h3 := mxN_ge (p := fun _ => true) (v := hway S b (n + 1) d c m) (x0 := 0) (5 ^ (n + 1)) (5 ^ n * 4 + w) (by rw [Nat.pow_succ]; omega) rfl
    rw [h2] at h3
    have h4 : 1 ≤ hY S b n d c m 4 := by
      unfold hY
      rw [if_neg (by unfold hbad; rw [decide_eq_false (fun q : (4 : Nat) ≠ 4 => q rfl), Bool.false_and]; decide)]
      omega
    unfold hM
    omega
theorem hM_s {b n d c m : Nat} (hc : c < 25) : hM S b (n + 1) d c m = mxN (fun _ => true) (hY S b n d c m) 5 0 := by
  refine Nat.le_antisymm hM_up (mxN_le (Nat.zero_le _) 5 (fun v hv _ => ?_))
  obtain ⟨w, h1, h2⟩ := hY_at (b := b) (d := d) (m := m) (hM_pos (b := b) n (d + 1) (hgo c v) (cu S b (d + 1) (hgo c v) m (nf S)) (hgo_lt c hc v hv).1)
  rw [← h2]
  refine mxN_ge (p := fun _ => true) (v := hway S b (n + 1) d c m) (5 ^ (n + 1)) (5 ^ n * v + w) ?_ rfl
  rw [Nat.pow_succ]
  have : 5 ^ n * v ≤ 5 ^ n * 4 := Nat.mul_le_mul_left _ (by omega)
  omega
/-- the first step of the first best way -/
def hfv (S : SS) (b n c : Nat) : Nat := ffs (fun v => decide (hY S b n 0 c 0 v = hM S b (n + 1) 0 c 0)) 5 0
theorem hfv_eq {b n c v : Nat} (hv : v < 5) (h1 : hY S b n 0 c 0 v = hM S b (n + 1) 0 c 0) (h2 : ∀ k, k < v → hY S b n 0 c 0 k < hM S b (n + 1) 0 c 0) : hfv S b n c = v :=
  ffs_eq 5 0 v (fun k _ hk => decide_eq_false (by have := h2 k hk; omega)) (Nat.zero_le _) (by omega) (fun _ => decide_eq_true h1)
/-- the first step of the first best of all the ways -/
theorem hfv_way {b n c w : Nat} (hc : c < 25) (hw : w < 5 ^ (n + 1)) (h1 : hway S b (n + 1) 0 c 0 w = hM S b (n + 1) 0 c 0) (h2 : ∀ k, k < w → hway S b (n + 1) 0 c 0 k < hM S b (n + 1) 0 c 0) : w / 5 ^ n = hfv S b n c := by
  have h5 := Nat.pow_pos (a := 5) (n := n) (by decide)
  rw [Nat.pow_succ] at hw
  have hv : w / 5 ^ n < 5 := Nat.div_lt_of_lt_mul (by omega)
  have hdm := Nat.div_add_mod w (5 ^ n)
  have hYle : ∀ v, v < 5 → hY S b n 0 c 0 v ≤ hM S b (n + 1) 0 c 0 := fun v hv => by
    rw [hM_s hc]
    exact mxN_ge (p := fun _ => true) (v := hY S b n 0 c 0) 5 v hv rfl
  refine (hfv_eq hv ?_ (fun k hk => ?_)).symm
  · have hr : w % 5 ^ n < 5 ^ n := Nat.mod_lt _ h5
    have hge := mxN_ge (p := fun _ => true) (v := hway S b n (0 + 1) (hgo c (w / 5 ^ n)) (cu S b (0 + 1) (hgo c (w / 5 ^ n)) 0 (nf S))) (x0 := 0) (5 ^ n) (w % 5 ^ n) hr rfl
    have h3 := hYle _ hv
    rw [← h1] at h3 ⊢
    refine Nat.le_antisymm h3 ?_
    rw [hway_s]
    unfold hY hM
    by_cases c1 : hbad c (w / 5 ^ n) = true
    · rw [if_pos c1]; exact Nat.zero_le _
    · rw [if_neg c1, if_neg c1]
      split <;> omega
  · obtain ⟨w', g1, g2⟩ := hY_at (b := b) (d := 0) (m := 0) (hM_pos (b := b) n (0 + 1) (hgo c k) (cu S b (0 + 1) (hgo c k) 0 (nf S)) (hgo_lt c hc k (by omega)).1)
    rw [← g2]
    refine h2 _ ?_
    have : 5 ^ n * (k + 1) ≤ 5 ^ n * (w / 5 ^ n) := Nat.mul_le_mul_left _ (by omega)
    rw [Nat.mul_add] at this
    omega
def spHaul (S : SS) (x w : Int32) : Int32 × Int32 := if okx x (nb S) = true then (if win w 0 5 = true then (0, pm (hM S (ix x) (ix w) 0 (ix (S 3 (ix x) 0)) 0)) else (2, 0)) else (1, 0)
def spFirst (S : SS) (x w : Int32) : Int32 × Int32 := if okx x (nb S) = true then (if win w 0 5 = true then (0, if w = 0 then -1 else nI (hfv S (ix x) (ix (w - 1)) (ix (S 3 (ix x) 0)))) else (2, 0)) else (1, 0)
end HAUL
