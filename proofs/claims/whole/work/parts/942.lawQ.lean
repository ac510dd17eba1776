/-! ===== a law's text: the class's chains ===== -/
section LAWQ
variable {t : MT} {i i' : MI} {n : Nat} {T : Nat → Int32} {c : Cd}
theorem chn_end {b : Nat → Bool} {nx : Nat → Nat} {f : Nat → Cd → Rz} {op : Int32} {m p : Nat} (h : ¬ b p = true) : chn b nx f op m p c = .inr (p, c) := by
  cases m with
  | zero => rfl
  | succ m => exact if_neg h
theorem chn_err {b : Nat → Bool} {nx : Nat → Nat} {f : Nat → Cd → Rz} {op : Int32} {m p e : Nat} (h : b p = true) (hm : n - p ≤ m) (hp : p < n) (hf : f (nx p) c = .inl e) : chn b nx f op m p c = .inl e := by
  obtain ⟨m', rfl⟩ : ∃ m', m = m' + 1 := ⟨m - 1, by omega⟩
  unfold chn
  rw [if_pos h, hf]
theorem chn_in {b : Nat → Bool} {nx : Nat → Nat} {f : Nat → Cd → Rz} {op : Int32} {m p : Nat} {q : Nat × Cd} (h : b p = true) (hm : n - p ≤ m) (hp : p < n) (hq : p < q.1) (hf : f (nx p) c = .inr q) : ∃ m', chn b nx f op m' q.1 (pu1 q.2 op) = chn b nx f op m p c ∧ n - q.1 ≤ m' := by
  obtain ⟨m', rfl⟩ : ∃ m', m = m' + 1 := ⟨m - 1, by omega⟩
  refine ⟨m', ?_, by omega⟩
  rw [show chn b nx f op (m' + 1) p c = (if b p = true then (match f (nx p) c with | .inl e => .inl e | .inr p => chn b nx f op m' p.1 (pu1 p.2 op)) else .inr (p, c)) from rfl, if_pos h, hf]
def CI (n : Nat) (T : Nat → Int32) (i0 : MI) (b : Nat → Bool) (nx : Nat → Nat) (f : Nat → Cd → Rz) (op : Int32) (tgt : Rz) (s0 : Nat) (j : Nat) (z : Int32 × MI) : Prop := z.1 = nI j ∧ ((j = 0 ∧ z.2 = i0) ∨ (0 < j ∧ ∃ m p c, chn b nx f op m p c = tgt ∧ n - p ≤ m ∧ s0 + j ≤ p ∧ tks n T p ∧ TK z.2 n T p ∧ KCd z.2 c ∧ fl i0 z.2 ∧ c.1 + 2 ≤ p))
theorem CI_end {i0 : MI} {b : Nat → Bool} {nx : Nat → Nat} {f : Nat → Cd → Rz} {op : Int32} {tgt : Rz} {s0 : Nat} {z : Int32 × MI} (h0 : 1 ≤ s0) (hs : s0 ≤ n) (h : CI n T i0 b nx f op tgt s0 n z) : False := by
  rcases h.2 with ⟨h1, _⟩ | ⟨_, m, p, c, _, _, h3, h4, _⟩
  · omega
  · have := h4.1; omega
/-- after the first of a chain -/
theorem CI_one {i0 : MI} {b : Nat → Bool} {nx : Nat → Nat} {f : Nat → Cd → Rz} {op : Int32} {s0 : Nat} {z : Int32 × MI} {q : Nat × Cd} (hf : f s0 c = .inr q) (hz : z.1 = nI (0 + 1)) (hk : tks n T q.1) (hg : gon s0 c q.1 q.2) (hc : c.1 + 2 ≤ s0) (a1 : TK z.2 n T q.1) (a2 : KCd z.2 q.2) (a3 : fl i0 z.2) : CI n T i0 b nx f op (chf n b nx f op s0 c) s0 (0 + 1) z :=
  ⟨hz, Or.inr ⟨by omega, n, q.1, q.2, by unfold chf; rw [hf], by omega, by have := hg.1; omega, hk, a1, a2, a3, by have := hg.2.1; omega⟩⟩
theorem CI_more {i0 i1 : MI} {b : Nat → Bool} {nx : Nat → Nat} {f : Nat → Cd → Rz} {op : Int32} {tgt : Rz} {s0 j m p : Nat} {z : Int32 × MI} {q : Nat × Cd} (h : b p = true) (hm : n - p ≤ m) (hp : p < n) (hx : p < nx p) (ht : chn b nx f op m p c = tgt) (hj : s0 + j ≤ p) (hf : f (nx p) c = .inr q) (hz : z.1 = nI (j + 1)) (hk : tks n T q.1) (hg : gon (nx p) c q.1 q.2) (hc : c.1 + 2 ≤ p) (a0 : fl i0 i1) (a1 : TK z.2 n T q.1) (a2 : KCd z.2 (pu1 q.2 op)) (a3 : fl i1 z.2) : CI n T i0 b nx f op tgt s0 (j + 1) z := by
  obtain ⟨m', e1, e2⟩ := chn_in (op := op) h hm hp (Nat.lt_trans hx hg.1) hf
  exact ⟨hz, Or.inr ⟨by omega, m', q.1, pu1 q.2 op, e1.trans ht, e2, by have := hg.1; omega, hk, a1, a2, a0.trans a3, by have := hg.2.1; show q.2.1 + 1 + 2 ≤ q.1; omega⟩⟩
theorem v_readSum (hS : SV t i) (hn : n ≤ 400) {s : Nat} (hs : tks n T s) (h : TK i n T s) (hc : KCd i c) (hl : c.1 + 2 ≤ s) : Tt (f_Lt_readSum t i) (CRz n T i (rSum n T s c)) := by
  unfold f_Lt_readSum
  refine tt_loop (CI n T i (sgn n T 43) (fun s => sp n T (s + 1)) (rPart n T) (-12) (rSum n T s c) s) n (by omega) (fun j hj z hz => ?_) (fun z hz => (CI_end (by omega) hs.1 hz).elim) ⟨rfl, Or.inl ⟨rfl, rfl⟩⟩
  obtain ⟨x, i1⟩ := z
  obtain ⟨e1, hz⟩ := hz
  dsimp only at e1 hz ⊢
  subst e1
  refine tt_ifp (nI_lt (b := 400) (by omega) (by decide)) ?_
  rcases hz with ⟨rfl, rfl⟩ | ⟨hj0, m, p, c1, ht, hm, hp, hk, a1, a2, a3, a4⟩
  · refine tt_ifp rfl ?_
    have hs1 := hs.1
    refine tt_mono (v_bSum1 hS hn hs h hc (j := 0) (by decide) (by omega)) ?_
    rintro (z | z) hz
    · obtain ⟨b1, q, b2, b3, b4, b5⟩ := hz
      obtain ⟨d1, d2, d3⟩ := GR_at (GR_part (hb := 0) (by decide)) hs b2
      exact CI_one b2 b1 d1 d2 hl b3 b4 b5
    · obtain ⟨e, b2, b3, b4, b5⟩ := hz
      show CRz n T i1 (chf n _ _ _ _ s c) z
      unfold chf
      rw [b2]
      exact ⟨b3, b4, b5⟩
  · refine tt_ifn (fun q => absurd ((nI_inj (b := 0) (by omega) (by omega)).mp q) (by omega)) ?_
    refine tt_bind (v_takeSign hn hk.1 a1 (c := 43) (by decide)) ?_
    rintro ⟨v, i2⟩ ⟨b1, b2, b3⟩
    dsimp only at b1 b2 b3 ⊢
    subst b1
    by_cases h43 : sgn n T 43 p = true
    · rw [if_pos h43] at b2
      rw [if_pos h43, if_neg (show ¬ (1 : Int32) = 0 by decide)]
      obtain ⟨x1, x2⟩ := sgn_lt h43
      have hp2 : p < n := (sgn_iff.mpr h43).1
      refine tt_mono (v_bSum1 ((hS.fl a3).fl b3.fl) hn x2 b2 (a2.ft b3) (j := j) (by omega) (by omega)) ?_
      rintro (z | z) hz
      · obtain ⟨y1, q, y2, y3, y4, y5⟩ := hz
        obtain ⟨d1, d2, d3⟩ := GR_at (GR_part (hb := 0) (by decide)) x2 y2
        rw [if_neg (by omega)] at y4
        exact CI_more h43 hm hp2 x1 ht hp y2 y1 d1 d2 a4 (a3.trans b3.fl) y3 y4 y5
      · obtain ⟨e, y2, y3, y4, y5⟩ := hz
        show CRz n T i (rSum n T s c) z
        rw [← ht, chn_err h43 hm hp2 y2]
        exact ⟨y3, y4, (a3.trans b3.fl).e y5⟩
    · rw [if_neg h43] at b2
      rw [if_neg h43, if_pos (show (0 : Int32) = 0 from rfl)]
      refine tt_some ?_
      show CRz n T i (rSum n T s c) _
      rw [← ht, chn_end h43]
      exact ⟨rfl, b2, a2.ft b3, a3.trans b3.fl⟩
end LAWQ
