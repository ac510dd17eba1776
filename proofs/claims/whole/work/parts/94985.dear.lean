/-! ===== dearest: the reference's call ===== -/
section DEAR
variable {i : MI} {S : SS} {L : LW}
theorem m_dearest (hw : Wf S) (h : MV i S) (hL : WL L) (hl : ML i L) : Tt (f_Mo_dearest i) (MO i (0, fo (dsg S L) (nf S) (-1))) := by
  have h8 := hw.1.f8
  have h1 := mv_t h 0
  have l1 := ml_t hl 0
  unfold f_Mo_dearest
  refine tt_bnd ?_
  refine tt_bind (P1 := fun y => y.1 = fo (dsg S L) (nf S) (-1) ∧ ∀ b j, b ≠ 1646 → y.2 b j = wr i 1638 0 0 b j)
    (tt_loop (fun q (s : Int32 × Int32 × MI) => s.1 = fo (dsg S L) q (-1) ∧ s.2.1 = nI q ∧ ∀ b j, b ≠ 1646 → s.2.2 b j = wr i 1638 0 0 b j) (nf S) (by omega) ?_ ?_ ⟨rfl, rfl, fun _ _ _ => rfl⟩) ?_
  · rintro q hq ⟨x, z, i5⟩ ⟨e1, e2, e3⟩
    dsimp only at e1 e2 e3 ⊢
    subst e2
    have hfo : fo (dsg S L) (q + 1) (-1) = dsg S L q x := by rw [e1]; rfl
    have hlt := dsg_lt (S := S) (L := L) q
    rw [← e1] at hlt
    have h2 : MV i5 S := h1.congr (fun k => e3 1639 k (by decide))
    have l2 : ML i5 L := l1.congr (fun k => e3 1639 k (by decide))
    have ho : f_Mo_of i5 (nI q) 3 = some (S 2 q 3) := m_of h2 (k := 3) (by omega) (by decide)
    rw [m_fishes h2, Option.bind_some, hw.1.f, if_pos (nI_lt hq (by omega)), ho, Option.bind_some]
    refine tt_bind (P1 := fun (v : Int32 × MI) => v.1 = dsg S L q x ∧ ∀ b j, b ≠ 1646 → v.2 b j = wr i 1638 0 0 b j) ?_ ?_
    · unfold dsg
      by_cases c : S 2 q 3 = 2
      · rw [if_pos c]
        rcases hlt with hlt | ⟨g, hg, eg⟩
        · rw [if_pos hlt, if_pos ⟨c, Or.inl hlt⟩]
          exact tt_some ⟨rfl, e3⟩
        · have hx : ¬ x = -1 := by rw [eg]; exact nI_m1 (by omega)
          rw [if_neg hx]
          refine tt_bind (m_price hw.1 h2 hL l2 (by omega)) ?_
          rintro ⟨v, i6⟩ ⟨u1, u2⟩
          dsimp only at u1 u2 ⊢
          have e6 : ∀ b j, b ≠ 1646 → i6 b j = wr i 1638 0 0 b j := fun b j hb => (u2 b j hb).trans (e3 b j hb)
          rw [eg]
          refine tt_bind (m_price hw.1 (h1.congr (fun k => e6 1639 k (by decide))) hL (l1.congr (fun k => e6 1639 k (by decide))) (show g < nf S by omega)) ?_
          rintro ⟨v2, i7⟩ ⟨w1, w2⟩
          dsimp only at w1 w2 ⊢
          subst u1 w1
          have e7 : ∀ b j, b ≠ 1646 → i7 b j = wr i 1638 0 0 b j := fun b j hb => (w2 b j hb).trans (e6 b j hb)
          rw [ix_nI (by omega)]
          by_cases c3 : spr S L g < spr S L q
          · rw [if_pos c3, if_pos ⟨c, Or.inr c3⟩]
            exact tt_some ⟨rfl, e7⟩
          · rw [if_neg c3, if_neg (fun k => k.2.elim (nI_m1 (by omega)) c3)]
            exact tt_some ⟨rfl, e7⟩
      · rw [if_neg c, if_neg (fun k : S 2 q 3 = 2 ∧ _ => c k.1)]
        exact tt_some ⟨rfl, e3⟩
    · rintro ⟨v, i6⟩ ⟨u1, u2⟩
      dsimp only at u1 u2 ⊢
      refine tt_some ⟨?_, nI_1 q, u2⟩
      rw [hfo]; exact u1
  · rintro ⟨x, z, i5⟩ ⟨e1, e2, e3⟩
    dsimp only at e1 e2 e3 ⊢
    subst e2
    have h2 : MV i5 S := h1.congr (fun k => e3 1639 k (by decide))
    rw [m_fishes h2, Option.bind_some, hw.1.f, if_neg (nI_nlt (Nat.le_refl _) (by omega))]
    exact tt_some ⟨e1, e3⟩
  · rintro ⟨m, i5⟩ ⟨e1, e3⟩
    exact tt_some (mo_ok (fq_46 e3) ((e3 1638 0 (by decide)).trans wr_s) e1)
end DEAR
