/-! ===== methods as functions: what a run of the abstract machine comes to, told by a function of the ints ===== -/
abbrev MI : Type := Nat → Nat → Int32
abbrev MR : Type := Nat → Nat → Nat
abbrev MT : Type := Nat → Nat × Nat
abbrev ix (j : Int32) : Nat := j.toNatClampNeg
def wr (i : MI) (a k : Nat) (v : Int32) : MI := fun b j => if b = a ∧ j = k then v else i b j
def wrR (r : MR) (a k v : Nat) : MR := fun b j => if b = a ∧ j = k then v else r b j
def cpI (i : MI) (a sp b dp n : Nat) : MI := fun c j => if c = b ∧ dp ≤ j ∧ j < dp + n then i a (sp + (j - dp)) else i c j
/-- the index must lie within -/
def grd {α : Type} (j : Int32) (n : Nat) (o : Option α) : Option α := if j < 0 then none else if j.toNatClampNeg < n then o else none
def grd2 {α : Type} (p : Bool) (o : Option α) : Option α := if p = true then o else none
def bnd {α β : Type} (x : α) (g : α → Option β) : Option β := g x
/-- a loop: its body goes on, or ends it -/
def itr {σ ρ : Type} (b : σ → Option (σ ⊕ ρ)) : Nat → σ → Option ρ
  | 0, _ => none
  | k + 1, s => match b s with
    | none => none
    | some (.inl s') => itr b k s'
    | some (.inr y) => some y
/-- a choice by a number, from lo on -/
def sw {α : Type} (x : Int32) : Int → List (Option α) → Option α → Option α
  | _, [], d => d
  | lo, o :: os, d => if x.toInt = lo then o else sw x (lo + 1) os d
def Ltr (j : Int32) (jn : Nat) : Prop := ¬ j < 0 ∧ j.toNatClampNeg = jn
def Ep (d : Nat) (M : mM) (e : cfg ⊕ (oR × aH)) (Q : oR × aH → Prop) : Prop := match e with
  | .inl c => Ex d M c Q
  | .inr q => Q q
/-- from e, if o tells x, the run comes to a place that K has of x -/
def Ge (d : Nat) (M : mM) (e : cfg ⊕ (oR × aH)) {α : Type} (o : Option α) (K : α → cfg ⊕ (oR × aH) → Prop) : Prop :=
  ∀ x, o = some x → ∀ Q, (∀ e', K x e' → Ep d M e' Q) → Ep d M e Q
/-- the method y's contract: its end is told by o -/
def Cn (D y : Nat) (as : List Value) (h : aH) {α : Type} (o : Option α) (F : α → oR × aH) (P : α → Prop) : Prop :=
  ∀ d, D ≤ d → ∀ x, o = some x → P x ∧ Rn d y as h (fun q => q = F x)
abbrev kR {α : Type} (F : α → oR × aH) (P : α → Prop) : α → cfg ⊕ (oR × aH) → Prop := fun x e => e = .inr (F x) ∧ P x
abbrev kX {σ ρ : Type} (C : σ → cfg ⊕ (oR × aH) → Prop) (K : ρ → cfg ⊕ (oR × aH) → Prop) : σ ⊕ ρ → cfg ⊕ (oR × aH) → Prop := fun x e => match x with
  | .inl s => C s e
  | .inr y => K y e
/-- behind a call, in a method without handlers -/
abbrev bkE (nx : Nat) (L S : List Value) (r : oR × aH) : cfg ⊕ (oR × aH) := match r with
  | (.inl (some v), h) => .inl (nx, L, v :: S, h)
  | (.inl none, h) => .inl (nx, L, S, h)
  | (.inr q, h) => .inr (.inr q, h)
section GRULES
variable {d pc nx tg n u : Nat} {M : mM} {cst : Int32} {L S : List Value} {t : MT} {i : MI} {r : MR} {h : aH} {o' : Int}
variable {α β σ ρ : Type} {K : α → cfg ⊕ (oR × aH) → Prop} {o o1 o2 : Option α} {e : cfg ⊕ (oR × aH)}
theorem ge_leaf {x : α} (hk : K x e) : Ge d M e (some x) K := by
  intro z hz Q hQ
  cases hz
  exact hQ e hk
theorem ge_none : Ge d M e (none : Option α) K := by
  rintro _ h; cases h
theorem ge_bind {β : Type} {K1 : β → cfg ⊕ (oR × aH) → Prop} {g : β → Option α} {o : Option β} (h1 : Ge d M e o K1) (h2 : ∀ x e', K1 x e' → Ge d M e' (g x) K) : Ge d M e (o.bind g) K := by
  intro z hz Q hQ
  cases o with
  | none => cases hz
  | some x => exact h1 x rfl Q (fun e' hk => h2 x e' hk z hz Q hQ)
theorem ge_bnd {β : Type} {x : β} {g : β → Option α} (k : Ge d M e (g x) K) : Ge d M e (bnd x g) K := k
theorem ge_itr {b : σ → Option (σ ⊕ ρ)} {C : σ → cfg ⊕ (oR × aH) → Prop} {K1 : ρ → cfg ⊕ (oR × aH) → Prop} (hb : ∀ s e, C s e → Ge d M e (b s) (kX C K1)) : ∀ k s e, C s e → Ge d M e (itr b k s) K1
  | 0, _, _, _ => by rintro _ h; cases h
  | k + 1, s, e, hc => by
    intro z hz Q hQ
    unfold itr at hz
    cases hbs : b s with
    | none => rw [hbs] at hz; cases hz
    | some x =>
      rw [hbs] at hz
      refine hb s e hc x hbs Q (fun e' hk => ?_)
      cases x with
      | inl s' => exact ge_itr hb k s' e' hk z hz Q hQ
      | inr y => cases hz; exact hQ e' hk
theorem ge_run {pc' : Nat} {L' S' : List Value} (k : Nat) (hr : prun M k pc L S = some (pc', L', S')) (kk : Ge d M (.inl (pc', L', S', h)) o K) : Ge d M (.inl (pc, L, S, h)) o K :=
  fun x hx Q hQ => Ex.run k hr (kk x hx Q hQ)
theorem ge_grd {j : Int32} {len : Nat} (k : ¬ j < 0 → j.toNatClampNeg < len → Ge d M e o K) : Ge d M e (grd j len o) K := by
  intro z hz Q hQ
  unfold grd at hz
  split at hz
  · cases hz
  · rename_i h1
    split at hz
    · rename_i h2; exact k h1 h2 z hz Q hQ
    · cases hz
theorem ge_grd2 {p : Bool} (k : p = true → Ge d M e o K) : Ge d M e (grd2 p o) K := by
  intro z hz Q hQ
  unfold grd2 at hz
  split at hz
  · rename_i h2; exact k h2 z hz Q hQ
  · cases hz
section BR
variable {x y : Int32}
theorem ge_eq (hf : M.1[pc]? = some (.if_icmp .eq o', cst, nx, tg)) (h1 : x = y → Ge d M (.inl (tg, L, S, h)) o1 K) (h2 : ¬ x = y → Ge d M (.inl (nx, L, S, h)) o2 K) : Ge d M (.inl (pc, L, .int y :: .int x :: S, h)) (if x = y then o1 else o2) K :=
  fun z hz Q hQ => ex_eq hf (fun hc => h1 hc z (by rw [if_pos hc] at hz; exact hz) Q hQ) (fun hc => h2 hc z (by rw [if_neg hc] at hz; exact hz) Q hQ)
theorem ge_ne (hf : M.1[pc]? = some (.if_icmp .ne o', cst, nx, tg)) (h1 : x = y → Ge d M (.inl (nx, L, S, h)) o1 K) (h2 : ¬ x = y → Ge d M (.inl (tg, L, S, h)) o2 K) : Ge d M (.inl (pc, L, .int y :: .int x :: S, h)) (if x = y then o1 else o2) K :=
  fun z hz Q hQ => ex_ne hf (fun hc => h1 hc z (by rw [if_pos hc] at hz; exact hz) Q hQ) (fun hc => h2 hc z (by rw [if_neg hc] at hz; exact hz) Q hQ)
theorem ge_lt (hf : M.1[pc]? = some (.if_icmp .lt o', cst, nx, tg)) (h1 : x < y → Ge d M (.inl (tg, L, S, h)) o1 K) (h2 : ¬ x < y → Ge d M (.inl (nx, L, S, h)) o2 K) : Ge d M (.inl (pc, L, .int y :: .int x :: S, h)) (if x < y then o1 else o2) K :=
  fun z hz Q hQ => ex_lt hf (fun hc => h1 hc z (by rw [if_pos hc] at hz; exact hz) Q hQ) (fun hc => h2 hc z (by rw [if_neg hc] at hz; exact hz) Q hQ)
theorem ge_ge (hf : M.1[pc]? = some (.if_icmp .ge o', cst, nx, tg)) (h1 : x < y → Ge d M (.inl (nx, L, S, h)) o1 K) (h2 : ¬ x < y → Ge d M (.inl (tg, L, S, h)) o2 K) : Ge d M (.inl (pc, L, .int y :: .int x :: S, h)) (if x < y then o1 else o2) K :=
  fun z hz Q hQ => ex_ge hf (fun hc => h1 hc z (by rw [if_pos hc] at hz; exact hz) Q hQ) (fun hc => h2 hc z (by rw [if_neg hc] at hz; exact hz) Q hQ)
theorem ge_gt (hf : M.1[pc]? = some (.if_icmp .gt o', cst, nx, tg)) (h1 : y < x → Ge d M (.inl (tg, L, S, h)) o1 K) (h2 : ¬ y < x → Ge d M (.inl (nx, L, S, h)) o2 K) : Ge d M (.inl (pc, L, .int y :: .int x :: S, h)) (if y < x then o1 else o2) K :=
  fun z hz Q hQ => ex_gt hf (fun hc => h1 hc z (by rw [if_pos hc] at hz; exact hz) Q hQ) (fun hc => h2 hc z (by rw [if_neg hc] at hz; exact hz) Q hQ)
theorem ge_le (hf : M.1[pc]? = some (.if_icmp .le o', cst, nx, tg)) (h1 : y < x → Ge d M (.inl (nx, L, S, h)) o1 K) (h2 : ¬ y < x → Ge d M (.inl (tg, L, S, h)) o2 K) : Ge d M (.inl (pc, L, .int y :: .int x :: S, h)) (if y < x then o1 else o2) K :=
  fun z hz Q hQ => ex_le hf (fun hc => h1 hc z (by rw [if_pos hc] at hz; exact hz) Q hQ) (fun hc => h2 hc z (by rw [if_neg hc] at hz; exact hz) Q hQ)
theorem ge_eq0 (hf : M.1[pc]? = some (.ifCond .eq o', cst, nx, tg)) (h1 : x = 0 → Ge d M (.inl (tg, L, S, h)) o1 K) (h2 : ¬ x = 0 → Ge d M (.inl (nx, L, S, h)) o2 K) : Ge d M (.inl (pc, L, .int x :: S, h)) (if x = 0 then o1 else o2) K :=
  fun z hz Q hQ => ex_eq0 hf (fun hc => h1 hc z (by rw [if_pos hc] at hz; exact hz) Q hQ) (fun hc => h2 hc z (by rw [if_neg hc] at hz; exact hz) Q hQ)
theorem ge_ne0 (hf : M.1[pc]? = some (.ifCond .ne o', cst, nx, tg)) (h1 : x = 0 → Ge d M (.inl (nx, L, S, h)) o1 K) (h2 : ¬ x = 0 → Ge d M (.inl (tg, L, S, h)) o2 K) : Ge d M (.inl (pc, L, .int x :: S, h)) (if x = 0 then o1 else o2) K :=
  fun z hz Q hQ => ex_ne0 hf (fun hc => h1 hc z (by rw [if_pos hc] at hz; exact hz) Q hQ) (fun hc => h2 hc z (by rw [if_neg hc] at hz; exact hz) Q hQ)
theorem ge_lt0 (hf : M.1[pc]? = some (.ifCond .lt o', cst, nx, tg)) (h1 : x < 0 → Ge d M (.inl (tg, L, S, h)) o1 K) (h2 : ¬ x < 0 → Ge d M (.inl (nx, L, S, h)) o2 K) : Ge d M (.inl (pc, L, .int x :: S, h)) (if x < 0 then o1 else o2) K :=
  fun z hz Q hQ => ex_lt0 hf (fun hc => h1 hc z (by rw [if_pos hc] at hz; exact hz) Q hQ) (fun hc => h2 hc z (by rw [if_neg hc] at hz; exact hz) Q hQ)
theorem ge_ge0 (hf : M.1[pc]? = some (.ifCond .ge o', cst, nx, tg)) (h1 : x < 0 → Ge d M (.inl (nx, L, S, h)) o1 K) (h2 : ¬ x < 0 → Ge d M (.inl (tg, L, S, h)) o2 K) : Ge d M (.inl (pc, L, .int x :: S, h)) (if x < 0 then o1 else o2) K :=
  fun z hz Q hQ => ex_ge0 hf (fun hc => h1 hc z (by rw [if_pos hc] at hz; exact hz) Q hQ) (fun hc => h2 hc z (by rw [if_neg hc] at hz; exact hz) Q hQ)
theorem ge_gt0 (hf : M.1[pc]? = some (.ifCond .gt o', cst, nx, tg)) (h1 : 0 < x → Ge d M (.inl (tg, L, S, h)) o1 K) (h2 : ¬ 0 < x → Ge d M (.inl (nx, L, S, h)) o2 K) : Ge d M (.inl (pc, L, .int x :: S, h)) (if 0 < x then o1 else o2) K :=
  fun z hz Q hQ => ex_gt0 hf (fun hc => h1 hc z (by rw [if_pos hc] at hz; exact hz) Q hQ) (fun hc => h2 hc z (by rw [if_neg hc] at hz; exact hz) Q hQ)
theorem ge_le0 (hf : M.1[pc]? = some (.ifCond .le o', cst, nx, tg)) (h1 : 0 < x → Ge d M (.inl (nx, L, S, h)) o1 K) (h2 : ¬ 0 < x → Ge d M (.inl (tg, L, S, h)) o2 K) : Ge d M (.inl (pc, L, .int x :: S, h)) (if 0 < x then o1 else o2) K :=
  fun z hz Q hQ => ex_le0 hf (fun hc => h1 hc z (by rw [if_pos hc] at hz; exact hz) Q hQ) (fun hc => h2 hc z (by rw [if_neg hc] at hz; exact hz) Q hQ)
/-- division by a number that isn't 0 -/
theorem ge_div (hf : M.1[pc]? = some (.idiv, cst, nx, tg)) (hy : ¬ y = 0) (kk : Ge d M (.inl (nx, L, .int (x / y) :: S, h)) o K) : Ge d M (.inl (pc, L, .int y :: .int x :: S, h)) o K :=
  fun z hz Q hQ => Ex.step (c' := (nx, L, .int (x / y) :: S, h)) (fun kk => by simp only [stp, hf, pS, if_neg hy]) (kk z hz Q hQ)
theorem ge_rem (hf : M.1[pc]? = some (.irem, cst, nx, tg)) (hy : ¬ y = 0) (kk : Ge d M (.inl (nx, L, .int (x - x / y * y) :: S, h)) o K) : Ge d M (.inl (pc, L, .int y :: .int x :: S, h)) o K :=
  fun z hz Q hQ => Ex.step (c' := (nx, L, .int (x - x / y * y) :: S, h)) (fun kk => by simp only [stp, hf, pS, if_neg hy]) (kk z hz Q hQ)
end BR
/-- all of the switch's places -/
def swG (d : Nat) (M : mM) (L S : List Value) (h : aH) (K : α → cfg ⊕ (oR × aH) → Prop) : List Int → List (Option α) → Prop
  | t :: ts, o :: os => Ge d M (.inl (t.toNat, L, S, h)) o K ∧ swG d M L S h K ts os
  | [], [] => True
  | _, _ => False
theorem swG_at {x : Int32} {dflt : Option α} : ∀ (ts : List Int) (os : List (Option α)) (lo : Int), swG d M L S h K ts os → ∀ z, sw x lo os dflt = some z → (x.toInt < lo ∨ lo + os.length ≤ x.toInt → dflt = some z) ∧ (lo ≤ x.toInt → x.toInt < lo + os.length → ∃ t o, ts[(x.toInt - lo).toNat]? = some t ∧ o = some z ∧ Ge d M (.inl (t.toNat, L, S, h)) o K)
  | [], [], lo, _, z, hz => ⟨fun _ => hz, fun h1 h2 => by simp at h2; omega⟩
  | [], _ :: _, _, hg, _, _ => hg.elim
  | _ :: _, [], _, hg, _, _ => hg.elim
  | t :: ts, o :: os, lo, hg, z, hz => by
    obtain ⟨h1, h2⟩ := hg
    unfold sw at hz
    split at hz
    · rename_i hx
      refine ⟨fun h => by simp only [List.length_cons] at h; omega, fun _ _ => ⟨t, o, ?_, hz, h1⟩⟩
      rw [hx, Int.sub_self]; rfl
    · rename_i hx
      obtain ⟨a1, a2⟩ := swG_at (dflt := dflt) ts os (lo + 1) h2 z hz
      refine ⟨fun h => a1 ?_, fun h3 h4 => ?_⟩
      · simp only [List.length_cons] at h; omega
      · obtain ⟨t', o', b1, b2⟩ := a2 (by omega) (by simp only [List.length_cons] at h4; omega)
        refine ⟨t', o', ?_, b2⟩
        rw [show (x.toInt - lo).toNat = (x.toInt - (lo + 1)).toNat + 1 by omega, List.getElem?_cons_succ]
        exact b1
theorem ge_sw {x : Int32} {dd lo hi : Int} {offs : Array Int} {os : List (Option α)} {dflt : Option α} (hf : M.1[pc]? = some (.tableswitch dd lo hi offs, cst, nx, tg)) (hl : lo + os.length = hi + 1) (hg : swG d M L S h K offs.toList os) (hd : Ge d M (.inl (dd.toNat, L, S, h)) dflt K) : Ge d M (.inl (pc, L, .int x :: S, h)) (sw x lo os dflt) K := by
  intro z hz Q hQ
  obtain ⟨a1, a2⟩ := swG_at (dflt := dflt) offs.toList os lo hg z hz
  by_cases hx : x.toInt < lo ∨ hi < x.toInt
  · exact ex_swO hf hx (hd z (a1 (by omega)) Q hQ)
  · obtain ⟨t, o, b1, b2, b3⟩ := a2 (by omega) (by omega)
    refine ex_swI hf (by omega) (by omega) ?_ (b3 z b2 Q hQ)
    rw [Array.getElem?_toList] at b1
    exact b1
/-! reading and writing -/
theorem ge_getI {a k len : Nat} (hf : M.1[pc]? = some (.getfield k, cst, nx, tg)) (ht : t a = (tg, len)) (hk : (decide (k < nF tg) && decide (fK tg k ≠ 1)) = true) (kk : Ge d M (.inl (nx, L, .int (i a k) :: S, (n, u, t, i, r))) o K) : Ge d M (.inl (pc, L, .ref a :: S, (n, u, t, i, r))) o K := by
  simp only [Bool.and_eq_true, decide_eq_true_eq] at hk
  exact fun x hx Q hQ => ex_getI (h := (n, u, t, i, r)) hf (by show (t a).1 = tg; rw [ht]) hk.1 hk.2 (kk x hx Q hQ)
theorem ge_getR {a k b len : Nat} (hf : M.1[pc]? = some (.getfield k, cst, nx, tg)) (ht : t a = (tg, len)) (hk : (decide (k < nF tg) && decide (fK tg k = 1)) = true) (hb : r a k = b) (h0 : 1000 ≤ b) (kk : Ge d M (.inl (nx, L, .ref b :: S, (n, u, t, i, r))) o K) : Ge d M (.inl (pc, L, .ref a :: S, (n, u, t, i, r))) o K := by
  simp only [Bool.and_eq_true, decide_eq_true_eq] at hk
  exact fun x hx Q hQ => ex_getR (h := (n, u, t, i, r)) hf (by show (t a).1 = tg; rw [ht]) hk.1 hk.2 hb (by omega) (kk x hx Q hQ)
theorem ge_putI {a k len : Nat} {x : Int32} {g : MI → Option α} (hf : M.1[pc]? = some (.putfield k, cst, nx, tg)) (ht : t a = (tg, len)) (ha : 1000 ≤ a) (hk : (decide (tg < 13) && decide (k < nF tg) && decide (fK tg k = 0)) = true) (kk : ∀ i', Ge d M (.inl (nx, L, S, (n, u, t, i', r))) (g i') K) : Ge d M (.inl (pc, L, .int x :: .ref a :: S, (n, u, t, i, r))) (bnd (wr i a k x) g) K := by
  simp only [Bool.and_eq_true, decide_eq_true_eq] at hk
  exact fun z hz Q hQ => ex_putI (h := (n, u, t, i, r)) hf ⟨by show (t a).1 = tg; rw [ht], hk.1.1, ha, hk.1.2⟩ (Or.inl hk.2) (kk (wr i a k x) z hz Q hQ)
theorem ge_putZ {a k len : Nat} {x : Int32} {g : MI → Option α} (hf : M.1[pc]? = some (.putfield k, cst, nx, tg)) (ht : t a = (tg, len)) (ha : 1000 ≤ a) (hk : (decide (tg < 13) && decide (k < nF tg) && decide (fK tg k = 2)) = true) (hx : x = 0 ∨ x = 1) (kk : ∀ i', Ge d M (.inl (nx, L, S, (n, u, t, i', r))) (g i') K) : Ge d M (.inl (pc, L, .int x :: .ref a :: S, (n, u, t, i, r))) (bnd (wr i a k x) g) K := by
  simp only [Bool.and_eq_true, decide_eq_true_eq] at hk
  exact fun z hz Q hQ => ex_putI (h := (n, u, t, i, r)) hf ⟨by show (t a).1 = tg; rw [ht], hk.1.1, ha, hk.1.2⟩ (Or.inr ⟨hk.2, hx⟩) (kk (wr i a k x) z hz Q hQ)
theorem ge_putR {a k b len : Nat} {g : MR → Option α} (hf : M.1[pc]? = some (.putfield k, cst, nx, tg)) (ht : t a = (tg, len)) (ha : 1000 ≤ a) (hk : (decide (tg < 13) && decide (k < nF tg) && decide (fK tg k = 1)) = true) (hb : 1000 ≤ b) (kk : Ge d M (.inl (nx, L, S, (n, u, t, i, wrR r a k b))) (g (wrR r a k b)) K) : Ge d M (.inl (pc, L, .ref b :: .ref a :: S, (n, u, t, i, r))) (bnd (wrR r a k b) g) K := by
  simp only [Bool.and_eq_true, decide_eq_true_eq] at hk
  exact fun z hz Q hQ => ex_putR (h := (n, u, t, i, r)) hf ⟨by show (t a).1 = tg; rw [ht], hk.1.1, ha, hk.1.2⟩ hk.2 hb (kk z hz Q hQ)
theorem ltr_nI {j : Int32} {jn : Nat} (hj : Ltr j jn) : j = nI jn ∧ jn < 2 ^ 31 := by
  obtain ⟨k, hk, rfl⟩ := nI_of hj.1
  rw [← hj.2, nI_clamp hk]
  exact ⟨rfl, hk⟩
theorem ge_iald {a len jn : Nat} {j : Int32} (hf : M.1[pc]? = some (.iaload, cst, nx, tg)) (ht : t a = (100, len)) (hj : Ltr j jn) (hl : jn < len) (kk : Ge d M (.inl (nx, L, .int (i a jn) :: S, (n, u, t, i, r))) o K) : Ge d M (.inl (pc, L, .int j :: .ref a :: S, (n, u, t, i, r))) o K :=
  fun x hx Q hQ => ex_iald (h := (n, u, t, i, r)) hf (by show (t a).1 = 100; rw [ht]) (ltr_nI hj).1 (by show jn < (t a).2; rw [ht]; exact hl) (ltr_nI hj).2 (kk x hx Q hQ)
theorem ge_bald {a len jn : Nat} {j : Int32} (hf : M.1[pc]? = some (.baload, cst, nx, tg)) (ht : t a = (101, len) ∨ t a = (102, len)) (hj : Ltr j jn) (hl : jn < len) (kk : Ge d M (.inl (nx, L, .int (i a jn) :: S, (n, u, t, i, r))) o K) : Ge d M (.inl (pc, L, .int j :: .ref a :: S, (n, u, t, i, r))) o K :=
  fun x hx Q hQ => ex_bald (h := (n, u, t, i, r)) hf (by show (t a).1 = 101 ∨ (t a).1 = 102; rcases ht with ht | ht <;> simp [ht]) (ltr_nI hj).1 (by show jn < (t a).2; rcases ht with ht | ht <;> (rw [ht]; exact hl)) (ltr_nI hj).2 (kk x hx Q hQ)
theorem ge_aald {a len jn b tag : Nat} {j : Int32} (hf : M.1[pc]? = some (.aaload, cst, nx, tg)) (ht : t a = (tag, len)) (htag : tag = 104 ∨ tag = 105) (hj : Ltr j jn) (hl : jn < len) (hb : r a jn = b) (h0 : 1000 ≤ b) (kk : Ge d M (.inl (nx, L, .ref b :: S, (n, u, t, i, r))) o K) : Ge d M (.inl (pc, L, .int j :: .ref a :: S, (n, u, t, i, r))) o K := by
  obtain ⟨rfl, hb31⟩ := ltr_nI hj
  intro x hx Q hQ
  refine Ex.step (c' := (nx, L, .ref b :: S, (n, u, t, i, r))) (fun kk => ?_) (kk x hx Q hQ)
  simp only [stp, hf, pS, sS]
  rw [if_pos ⟨by show (t a).1 = 104 ∨ (t a).1 = 105; rw [ht]; exact htag, nI_pos hb31, by rw [nI_clamp hb31]; show jn < (t a).2; rw [ht]; exact hl⟩, nI_clamp hb31]
  show some (Sum.inl (nx, L, rV (r a jn) :: S, (n, u, t, i, r))) = some (Sum.inl (nx, L, .ref b :: S, (n, u, t, i, r)))
  rw [hb, rV, if_neg (by omega)]
theorem ge_iast {a len jn : Nat} {j x : Int32} {g : MI → Option α} (hf : M.1[pc]? = some (.iastore, cst, nx, tg)) (ht : t a = (100, len)) (h1 : 1000 ≤ a) (hj : Ltr j jn) (hl : jn < len) (kk : ∀ i', Ge d M (.inl (nx, L, S, (n, u, t, i', r))) (g i') K) : Ge d M (.inl (pc, L, .int x :: .int j :: .ref a :: S, (n, u, t, i, r))) (bnd (wr i a jn x) g) K :=
  fun z hz Q hQ => ex_iast (h := (n, u, t, i, r)) hf (by show (t a).1 = 100; rw [ht]) h1 (ltr_nI hj).1 (by show jn < (t a).2; rw [ht]; exact hl) (ltr_nI hj).2 (kk (wr i a jn x) z hz Q hQ)
theorem ge_bast {a len jn : Nat} {j x : Int32} {g : MI → Option α} (hf : M.1[pc]? = some (.bastore, cst, nx, tg)) (ht : t a = (101, len)) (h1 : 1000 ≤ a) (hj : Ltr j jn) (hl : jn < len) (kk : ∀ i', Ge d M (.inl (nx, L, S, (n, u, t, i', r))) (g i') K) : Ge d M (.inl (pc, L, .int x :: .int j :: .ref a :: S, (n, u, t, i, r))) (bnd (wr i a jn x.toInt8.toInt32) g) K :=
  fun z hz Q hQ => ex_bast (h := (n, u, t, i, r)) hf (by show (t a).1 = 101; rw [ht]) h1 (ltr_nI hj).1 (by show jn < (t a).2; rw [ht]; exact hl) (ltr_nI hj).2 (kk (wr i a jn x.toInt8.toInt32) z hz Q hQ)
theorem ge_zast {a len jn : Nat} {j x : Int32} {g : MI → Option α} (hf : M.1[pc]? = some (.bastore, cst, nx, tg)) (ht : t a = (102, len)) (h1 : 1000 ≤ a) (hj : Ltr j jn) (hl : jn < len) (kk : ∀ i', Ge d M (.inl (nx, L, S, (n, u, t, i', r))) (g i') K) : Ge d M (.inl (pc, L, .int x :: .int j :: .ref a :: S, (n, u, t, i, r))) (grd2 (decide (x = 0 ∨ x = 1)) (bnd (wr i a jn x) g)) K :=
  ge_grd2 (fun h2 z hz Q hQ => ex_zast (h := (n, u, t, i, r)) hf (by show (t a).1 = 102; rw [ht]) h1 (ltr_nI hj).1 (by show jn < (t a).2; rw [ht]; exact hl) (ltr_nI hj).2 (of_decide_eq_true h2) (kk (wr i a jn x) z hz Q hQ))
theorem ge_alen {a len tag : Nat} (hf : M.1[pc]? = some (.arraylength, cst, nx, tg)) (ht : t a = (tag, len)) (htag : 100 ≤ tag ∧ tag ≤ 105) (kk : Ge d M (.inl (nx, L, .int (nI len) :: S, (n, u, t, i, r))) o K) : Ge d M (.inl (pc, L, .ref a :: S, (n, u, t, i, r))) o K :=
  fun x hx Q hQ => ex_alen (h := (n, u, t, i, r)) hf (by show 100 ≤ (t a).1 ∧ (t a).1 ≤ 105; rw [ht]; exact htag) (by show (t a).2 = len; rw [ht]) (kk x hx Q hQ)
theorem ge_nonnull {a : Nat} (hf : M.1[pc]? = some (.ifnonnull o', cst, nx, tg)) (ha : 1000 ≤ a) (kk : Ge d M (.inl (tg, L, S, h)) o K) : Ge d M (.inl (pc, L, .ref a :: S, h)) o K :=
  fun x hx Q hQ => ex_nonnull hf (by omega) (kk x hx Q hQ)
theorem ge_null {a : Nat} (hf : M.1[pc]? = some (.ifnull o', cst, nx, tg)) (ha : 1000 ≤ a) (kk : Ge d M (.inl (nx, L, S, h)) o K) : Ge d M (.inl (pc, L, .ref a :: S, h)) o K :=
  fun x hx Q hQ => ex_null hf (by omega) (kk x hx Q hQ)
theorem ge_cpy {a b sp dp k la lb : Nat} {j1 j2 j3 : Int32} {g : MI → Option α} (hf : M.1[pc]? = some (.invokedynamic tg, cst, nx, 0)) (ha : t a = (100, la)) (hb : t b = (100, lb)) (h1 : 1000 ≤ b) (hS : cat8 S = true) (q1 : Ltr j1 sp) (q2 : Ltr j2 dp) (q3 : Ltr j3 k) (h4 : sp + k ≤ la) (h5 : dp + k ≤ lb) (kk : ∀ i', Ge d M (.inl (nx, L, S, (n, u, t, i', r))) (g i') K) : Ge d M (.inl (pc, L, .int j3 :: .int j2 :: .ref b :: .int j1 :: .ref a :: S, (n, u, t, i, r))) (bnd (cpI i a sp b dp k) g) K :=
  fun z hz Q hQ => ex_cpy (h := (n, u, t, i, r)) hf ⟨by show (t a).1 = 100; rw [ha], by show (t b).1 = 100; rw [hb], h1⟩ hS (ltr_nI q1).1 (ltr_nI q2).1 (ltr_nI q3).1 (ltr_nI q1).2 (ltr_nI q2).2 (ltr_nI q3).2 (by show sp + k ≤ (t a).2; rw [ha]; exact h4) (by show dp + k ≤ (t b).2; rw [hb]; exact h5) (kk (cpI i a sp b dp k) z hz Q hQ)
/-! ends -/
theorem ge_ret {v : Int32} {x : α} (hf : M.1[pc]? = some (.ireturn, cst, nx, tg)) (hr : M.2.2.2.1 = 1) (hk : K x (.inr (.inl (some (.int v)), h))) : Ge d M (.inl (pc, L, [.int v], h)) (some x) K := by
  intro z hz Q hQ
  cases hz
  exact ex_ret hf (Or.inl hr) (hQ _ hk)
theorem ge_retz {v : Int32} {x : α} (hf : M.1[pc]? = some (.ireturn, cst, nx, tg)) (hr : M.2.2.2.1 = 2) (hv : v = 0 ∨ v = 1) (hk : K x (.inr (.inl (some (.int v)), h))) : Ge d M (.inl (pc, L, [.int v], h)) (some x) K := by
  intro z hz Q hQ
  cases hz
  exact ex_ret hf (Or.inr ⟨hr, hv⟩) (hQ _ hk)
theorem ge_retZ {v : Int32} {x : α} (hf : M.1[pc]? = some (.ireturn, cst, nx, tg)) (hr : M.2.2.2.1 = 2) (hk : K x (.inr (.inl (some (.int v)), h))) : Ge d M (.inl (pc, L, [.int v], h)) (grd2 (decide (v = 0 ∨ v = 1)) (some x)) K :=
  ge_grd2 (fun h2 => ge_retz hf hr (of_decide_eq_true h2) hk)
theorem ge_reta {a : Nat} {x : α} (hf : M.1[pc]? = some (.areturn, cst, nx, tg)) (hr : M.2.2.2.1 = 3) (hk : K x (.inr (.inl (some (.ref a)), h))) : Ge d M (.inl (pc, L, [.ref a], h)) (some x) K := by
  intro z hz Q hQ
  cases hz
  exact ex_reta hf hr (hQ _ hk)
theorem ge_retv {x : α} (hf : M.1[pc]? = some (.return_, cst, nx, tg)) (hr : M.2.2.2.1 = 0) (hk : K x (.inr (.inl none, h))) : Ge d M (.inl (pc, L, [], h)) (some x) K := by
  intro z hz Q hQ
  cases hz
  exact ex_retv hf hr (hQ _ hk)
/-- an exception is made and thrown out of the method -/
theorem ge_throw {c pc2 nx2 tg2 : Nat} {cst2 : Int32} {x : α} (hf : M.1[pc]? = some (.new c, cst, pc2, tg)) (hc : 20 ≤ c ∧ c < 25) (hf2 : M.1[pc2]? = some (.athrow, cst2, nx2, tg2)) (hh : M.2.1 = []) (hk : K x (.inr (.inr (aN h), aNew h c 0 6))) : Ge d M (.inl (pc, L, [], h)) (some x) K := by
  intro z hz Q hQ
  cases hz
  have ht : aT (aNew h c 0 6) (aN h) = c := by simp [aT, aNew, aN]
  refine ex_mke hf hc ?_
  exact ex_thr hf2 (by rw [ht]; exact hc) (by rw [hh]; rfl) (hQ _ hk)
/-! calls -/
theorem ge_cs {y D : Nat} {Y : mM} {as S' : List Value} {o : Option β} {F : β → oR × aH} {P : β → Prop} {g : β → Option α} (hf : M.1[pc]? = some (.invokestatic y, cst, nx, tg)) (hY : Pg[y]? = some Y) (hs : (decide (Y.2.2.2.2.2 = 99) && decide (Y.2.2.2.2.1 ≤ S.length) && cat8 S') = true) (hd : S.drop Y.2.2.2.2.1 = S') (ha : (S.take Y.2.2.2.2.1).reverse = as) (hM : M.2.1 = []) (hD : D ≤ d) (hc : Cn D y as h o F P)
    (kk : ∀ x, P x → Ge d M (bkE nx L S' (F x)) (g x) K) : Ge d M (.inl (pc, L, S, h)) (o.bind g) K := by
  simp only [Bool.and_eq_true, decide_eq_true_eq] at hs
  intro z hz Q hQ
  cases o with
  | none => cases hz
  | some x =>
    obtain ⟨hP, hR⟩ := hc d hD x rfl
    refine ex_callS hf hY hs.1.1 hs.1.2 hd hs.2 ha hR ?_
    have k9 := kk x hP z hz Q hQ
    rintro _ rfl
    revert k9
    obtain ⟨⟨_ | v⟩ | q, h'⟩ := F x
    · exact id
    · exact id
    · intro k9
      rw [hM]
      exact k9
theorem ge_cv {y D a : Nat} {Y : mM} {as S' : List Value} {o : Option β} {F : β → oR × aH} {P : β → Prop} {g : β → Option α} {len : Nat} (hf : M.1[pc]? = some (.invokevirtual y, cst, nx, tg)) (hY : Pg[y]? = some Y) (hs : (decide (Y.2.2.2.2.2 < 14) && cat8 S') = true) (ht : t a = (Y.2.2.2.2.2, len)) (hd : S.drop Y.2.2.2.2.1 = .ref a :: S') (ha : .ref a :: (S.take Y.2.2.2.2.1).reverse = as) (hM : M.2.1 = []) (hD : D ≤ d) (hc : Cn D y as (n, u, t, i, r) o F P)
    (kk : ∀ x, P x → Ge d M (bkE nx L S' (F x)) (g x) K) : Ge d M (.inl (pc, L, S, (n, u, t, i, r))) (o.bind g) K := by
  simp only [Bool.and_eq_true, decide_eq_true_eq] at hs
  intro z hz Q hQ
  cases o with
  | none => cases hz
  | some x =>
    obtain ⟨hP, hR⟩ := hc d hD x rfl
    refine ex_callV (Or.inl hf) hY hs.1 (by show (t a).1 = _; rw [ht]) hd hs.2 ha hR ?_
    have k9 := kk x hP z hz Q hQ
    rintro _ rfl
    revert k9
    obtain ⟨⟨_ | v⟩ | q, h'⟩ := F x
    · exact id
    · exact id
    · intro k9
      rw [hM]
      exact k9
/-- a method's contract by a walk of its body -/
theorem cn_of {D y : Nat} {as : List Value} {Y : mM} {L0 : List Value} {F : α → oR × aH} {P : α → Prop} (hY : Pg[y]? = some Y) (hl : (decide (as.length ≤ Y.2.2.1) && as.all okV) = true) (hL : as ++ List.replicate (Y.2.2.1 - as.length) uV = L0) (hx : ∀ d, D ≤ d → Ge d Y (.inl (0, L0, [], h)) o (kR F P)) : Cn (D + 1) y as h o F P := by
  simp only [Bool.and_eq_true, decide_eq_true_eq] at hl
  intro d hd x hxo
  obtain ⟨d', rfl⟩ : ∃ d', d = d' + 1 := ⟨d - 1, by omega⟩
  have hg := hx d' (by omega)
  have hP : P x := by
    have := hg x hxo (fun _ => P x) (fun e he => by
      obtain ⟨rfl, hp⟩ := he
      exact hp)
    obtain ⟨_, hp, _⟩ := this
    exact hp
  refine ⟨hP, Rn.of hY hl.1 hl.2 hL ?_⟩
  refine hg x hxo _ (fun e he => ?_)
  obtain ⟨rfl, -⟩ := he
  rfl
end GRULES
section GRULES2
variable {d pc nx tg n u : Nat} {M : mM} {cst : Int32} {L S : List Value} {t : MT} {i : MI} {r : MR} {h : aH}
variable {α : Type} {K : α → cfg ⊕ (oR × aH) → Prop} {o o1 o2 o3 : Option α}
theorem ge_ls2 {x : Int32} {dd k1 k2 t1 t2 : Int} (hf : M.1[pc]? = some (.lookupswitch dd #[(k1, t1), (k2, t2)], cst, nx, tg)) (h1 : Ge d M (.inl (t1.toNat, L, S, h)) o1 K) (h2 : Ge d M (.inl (t2.toNat, L, S, h)) o2 K) (h3 : Ge d M (.inl (dd.toNat, L, S, h)) o3 K) : Ge d M (.inl (pc, L, .int x :: S, h)) (if x.toInt = k1 then o1 else if x.toInt = k2 then o2 else o3) K := by
  intro z hz Q hQ
  by_cases q1 : x.toInt = k1
  · rw [if_pos q1] at hz
    exact ex_ls hf (t := t1) (by simp [lsw, q1]) (h1 z hz Q hQ)
  · rw [if_neg q1] at hz
    by_cases q2 : x.toInt = k2
    · rw [if_pos q2] at hz
      exact ex_ls hf (t := t2) (by simp only [lsw]; rw [if_neg (fun e => q1 e.symm), if_pos q2.symm]) (h2 z hz Q hQ)
    · rw [if_neg q2] at hz
      exact ex_ls hf (t := dd) (by simp only [lsw]; rw [if_neg (fun e => q1 e.symm), if_neg (fun e => q2 e.symm)]) (h3 z hz Q hQ)
end GRULES2
section GRULES3
variable {d pc nx tg n u : Nat} {M : mM} {cst : Int32} {L S : List Value} {t : MT} {i : MI} {r : MR} {h : aH}
variable {α : Type} {K : α → cfg ⊕ (oR × aH) → Prop} {o : Option α}
theorem ge_getR0 {a k b len : Nat} (hf : M.1[pc]? = some (.getfield k, cst, nx, tg)) (ht : t a = (tg, len)) (hk : (decide (k < nF tg) && decide (fK tg k = 1)) = true) (hb : r a k = b) (h0 : b ≠ 0) (kk : Ge d M (.inl (nx, L, .ref b :: S, (n, u, t, i, r))) o K) : Ge d M (.inl (pc, L, .ref a :: S, (n, u, t, i, r))) o K := by
  simp only [Bool.and_eq_true, decide_eq_true_eq] at hk
  exact fun x hx Q hQ => ex_getR (h := (n, u, t, i, r)) hf (by show (t a).1 = tg; rw [ht]) hk.1 hk.2 hb h0 (kk x hx Q hQ)
theorem ge_retb {v : Int32} {x : α} (hf : M.1[pc]? = some (.ireturn, cst, nx, tg)) (hr : M.2.2.2.1 = 5) (hk : K x (.inr (.inl (some (.int v)), h))) : Ge d M (.inl (pc, L, [.int v], h)) (grd2 (decide (v.toInt8.toInt32 = v)) (some x)) K := by
  refine ge_grd2 (fun h2 => ?_)
  intro z hz Q hQ
  cases hz
  have e9 : Value.int v.toInt8.toInt32 = Value.int v := by rw [of_decide_eq_true h2]
  exact ex_retc hf (Or.inr (And.intro hr e9)) (hQ _ hk)
theorem ge_retch {v : Int32} {x : α} (hf : M.1[pc]? = some (.ireturn, cst, nx, tg)) (hr : M.2.2.2.1 = 4) (hk : K x (.inr (.inl (some (.int v)), h))) : Ge d M (.inl (pc, L, [.int v], h)) (grd2 (decide (v.toUInt32.toUInt16.toUInt32.toInt32 = v)) (some x)) K := by
  refine ge_grd2 (fun h2 => ?_)
  intro z hz Q hQ
  cases hz
  have e9 : Value.int v.toUInt32.toUInt16.toUInt32.toInt32 = Value.int v := by rw [of_decide_eq_true h2]
  exact ex_retc hf (Or.inl (And.intro hr e9)) (hQ _ hk)
theorem cn_none {D y : Nat} {as : List Value} {F : α → oR × aH} {P : α → Prop} : Cn D y as h (none : Option α) F P := fun d _ x hx => by cases hx
end GRULES3
