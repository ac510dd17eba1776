/-! ===== reasoning on the functions: base ===== -/
/-- o tells something, and it's in P -/
def Tt {α : Type} (o : Option α) (P : α → Prop) : Prop := ∃ y, o = some y ∧ P y
abbrev lpP {σ α : Type} (I : σ → Prop) (P : α → Prop) : σ ⊕ α → Prop := fun z => match z with
  | .inl s => I s
  | .inr y => P y
section BASE
variable {α β σ ρ : Type} {P : α → Prop}
theorem tt_some {y : α} (h : P y) : Tt (some y) P := ⟨y, rfl, h⟩
theorem tt_bind {o : Option β} {g : β → Option α} {P1 : β → Prop} (h1 : Tt o P1) (h2 : ∀ y, P1 y → Tt (g y) P) : Tt (o.bind g) P := by
  obtain ⟨y, rfl, hy⟩ := h1
  exact h2 y hy
theorem tt_eq {o : Option β} {g : β → Option α} {v : β} (h1 : o = some v) (h2 : Tt (g v) P) : Tt (o.bind g) P := by
  rw [h1]; exact h2
theorem tt_bnd {x : β} {g : β → Option α} (h : Tt (g x) P) : Tt (bnd x g) P := h
theorem tt_mono {o : Option α} {P1 : α → Prop} (h1 : Tt o P1) (h2 : ∀ y, P1 y → P y) : Tt o P := by
  obtain ⟨y, h, hy⟩ := h1
  exact ⟨y, h, h2 y hy⟩
theorem tt_if {c : Prop} [Decidable c] {o1 o2 : Option α} (h1 : c → Tt o1 P) (h2 : ¬ c → Tt o2 P) : Tt (if c then o1 else o2) P := by
  by_cases h : c
  · rw [if_pos h]; exact h1 h
  · rw [if_neg h]; exact h2 h
theorem tt_ifp {c : Prop} [Decidable c] {o1 o2 : Option α} (hc : c) (h1 : Tt o1 P) : Tt (if c then o1 else o2) P := by rw [if_pos hc]; exact h1
theorem tt_ifn {c : Prop} [Decidable c] {o1 o2 : Option α} (hc : ¬ c) (h1 : Tt o2 P) : Tt (if c then o1 else o2) P := by rw [if_neg hc]; exact h1
theorem grd_ok {j : Int32} {k n : Nat} {o : Option α} (hj : j = nI k) (hk : k < n) (hb : n ≤ 2 ^ 31) : grd j n o = o := by
  subst hj
  have h31 : k < 2 ^ 31 := by omega
  unfold grd
  rw [if_neg (nI_pos h31), nI_clamp h31, if_pos hk]
theorem grd_nI {k n : Nat} {o : Option α} (hk : k < n) (hb : n ≤ 2 ^ 31) : grd (nI k) n o = o := grd_ok rfl hk hb
theorem tt_grd {j : Int32} {k n : Nat} {o : Option α} (hj : j = nI k) (hk : k < n) (hb : n ≤ 2 ^ 31) (h : Tt o P) : Tt (grd j n o) P := by
  rw [grd_ok hj hk hb]; exact h
theorem tt_grd2 {p : Bool} {o : Option α} (hp : p = true) (h : Tt o P) : Tt (grd2 p o) P := by
  unfold grd2; rw [if_pos hp]; exact h
theorem ix_nI {k : Nat} (h : k < 2 ^ 31) : ix (nI k) = k := nI_clamp h
theorem lit_nI (n : Nat) : (OfNat.ofNat n : Int32) = nI n := rfl
theorem sub_nI {a b : Nat} (h : b ≤ a) : nI a - nI b = nI (a - b) := by
  have e : nI a = nI (a - b) + nI b := by rw [nI_add]; congr 1; omega
  rw [e]
  apply Int32.toBitVec_inj.mp
  simp
theorem mul_nI (a b : Nat) : nI a * nI b = nI (a * b) := (Int32.ofNat_mul a b).symm
/-- a loop of at most n turns, with an invariant: it ends in P -/
theorem tt_itr {b : σ → Option (σ ⊕ α)} (Inv : Nat → σ → Prop) (n K : Nat) (hK : n < K) (hs : ∀ j, j < n → ∀ s, Inv j s → (∃ s', b s = some (.inl s') ∧ Inv (j + 1) s') ∨ (∃ y, b s = some (.inr y) ∧ P y)) (he : ∀ s, Inv n s → ∃ y, b s = some (.inr y) ∧ P y) {s0 : σ} (h0 : Inv 0 s0) : Tt (itr b K s0) P := by
  have key : ∀ m, m ≤ n → ∀ K, m < K → ∀ s, Inv (n - m) s → Tt (itr b K s) P := by
    intro m
    induction m with
    | zero =>
      intro _ K hK s hi
      obtain ⟨k, rfl⟩ : ∃ k, K = k + 1 := ⟨K - 1, by omega⟩
      obtain ⟨y, h1, h2⟩ := he s hi
      unfold itr
      rw [h1]
      exact ⟨y, rfl, h2⟩
    | succ m ih =>
      intro hm K hK s hi
      obtain ⟨k, rfl⟩ : ∃ k, K = k + 1 := ⟨K - 1, by omega⟩
      unfold itr
      rcases hs (n - (m + 1)) (by omega) s hi with ⟨s', h1, h2⟩ | ⟨y, h1, h2⟩
      · rw [h1]
        refine ih (by omega) k (by omega) s' ?_
        rw [show n - m = n - (m + 1) + 1 by omega]
        exact h2
      · rw [h1]
        exact ⟨y, rfl, h2⟩
  exact key n (Nat.le_refl n) K hK s0 (by rw [Nat.sub_self]; exact h0)
/-- the same, told by what a turn tells -/
theorem tt_loop {b : σ → Option (σ ⊕ α)} (Inv : Nat → σ → Prop) (n : Nat) {K : Nat} (hK : n < K) (hs : ∀ j, j < n → ∀ s, Inv j s → Tt (b s) (lpP (Inv (j + 1)) P)) (he : ∀ s, Inv n s → Tt (b s) (lpP (fun _ => False) P)) {s0 : σ} (h0 : Inv 0 s0) : Tt (itr b K s0) P := by
  refine tt_itr Inv n K hK (fun j hj s hi => ?_) (fun s hi => ?_) h0
  · obtain ⟨z, hz, hp⟩ := hs j hj s hi
    cases z with
    | inl s' => exact Or.inl ⟨s', hz, hp⟩
    | inr y => exact Or.inr ⟨y, hz, hp⟩
  · obtain ⟨z, hz, hp⟩ := he s hi
    cases z with
    | inl s' => exact hp.elim
    | inr y => exact ⟨y, hz, hp⟩
/-- n turns, each a known step -/
def fo {α : Type} (g : Nat → α → α) : Nat → α → α
  | 0, x => x
  | n + 1, x => g n (fo g n x)
theorem itr_fo {b : σ → Option (σ ⊕ ρ)} (st : Nat → α → σ) (g : Nat → α → α) (n : Nat) (x0 : α) {K : Nat} {y : ρ} (hs : ∀ j x, j < n → x = fo g j x0 → b (st j x) = some (.inl (st (j + 1) (g j x)))) (he : b (st n (fo g n x0)) = some (.inr y)) (hK : n < K) {s0 : σ} (h0 : s0 = st 0 x0) : itr b K s0 = some y := by
  subst h0
  have h := tt_itr (P := fun z => z = y) (b := b) (s0 := st 0 x0) (fun j s => s = st j (fo g j x0)) n K hK (fun j hj s hi => Or.inl ⟨st (j + 1) (g j (fo g j x0)), by rw [hi]; exact hs j _ hj rfl, rfl⟩) (fun s hi => ⟨y, by rw [hi]; exact he, rfl⟩) rfl
  obtain ⟨z, hz, rfl⟩ := h
  exact hz
theorem itr_bind {b : σ → Option (σ ⊕ ρ)} {K : Nat} {s0 : σ} {y : ρ} {k : ρ → Option β} (h : itr b K s0 = some y) : (itr b K s0).bind k = k y := by rw [h]; rfl
theorem fo_congr {g g' : Nat → α → α} : ∀ n x, (∀ j x, j < n → g j x = g' j x) → fo g n x = fo g' n x
  | 0, _, _ => rfl
  | n + 1, x, h => by
    unfold fo
    rw [fo_congr n x (fun j x hj => h j x (by omega)), h n _ (by omega)]
theorem fo_ind {g : Nat → α → α} {Q : Nat → α → Prop} {x0 : α} (h0 : Q 0 x0) : ∀ n, (∀ j x, j < n → Q j x → Q (j + 1) (g j x)) → Q n (fo g n x0)
  | 0, _ => h0
  | n + 1, hs => hs n _ (by omega) (fo_ind h0 n (fun j x hj => hs j x (by omega)))
end BASE
/-- the set of those below n that are in p -/
def bits (p : Nat → Bool) : Nat → Nat
  | 0 => 0
  | n + 1 => if p n then bits p n + 2 ^ n else bits p n
theorem bits_succ (p : Nat → Bool) (n : Nat) : bits p (n + 1) = if p n = true then bits p n + 2 ^ n else bits p n := rfl
theorem bits_lt (p : Nat → Bool) : ∀ n, bits p n < 2 ^ n
  | 0 => Nat.one_pos
  | n + 1 => by
    have := bits_lt p n
    unfold bits
    split <;> (rw [Nat.pow_succ]; omega)
theorem or_bit : ∀ f, f < 8 → ∀ m, m < 2 ^ f → nI m ||| shl 1 (nI f) = nI (m + 2 ^ f) := by decide +kernel
theorem or_0 (m : Nat) : nI m ||| 0 = nI m := by
  apply Int32.toBitVec_inj.mp
  simp
