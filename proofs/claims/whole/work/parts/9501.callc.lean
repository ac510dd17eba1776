/-! ===== every call of the class, told of the world (written by wip/gen/mk9501.py) ===== -/
def tgc (tg : List Nat) (c : Int32) : Nat := if c = 1 then tg[0]?.getD 0 else if c = 2 then tg[1]?.getD 0 else tg[2]?.getD 0
/-- a call of the class ended: its code and value, and the world -/
def CRs (N U : Nat) (t : MT) (i : MI) (p : Int32 × Int32) (tg : List Nat) (A : AS) (q : oR × aH) : Prop := ∃ N' U' t' i' r', CInv N' t' i' r' A ∧ N' ≤ N + 7 ∧ U' ≤ U + 600 ∧ (∀ b j, (b < 1000 ∨ 1638 ≤ b) → b < 1659 → i' b j = i b j) ∧ t' 1 = t 1 ∧
  ((p.1 = 0 ∧ q = (.inl (some (.int p.2)), (N', U', t', i', r'))) ∨ (¬ p.1 = 0 ∧ ∃ e, q = (.inr e, (N', U', t', i', r')) ∧ (t' e).1 = tgc tg p.1))
abbrev frO (i i' : MI) : Prop := ∀ b j, (b < 1000 ∨ 1638 ≤ b) → b < 1659 → i' b j = i b j
section CALLS
variable {N U d D y : Nat} {t : MT} {i : MI} {r : MR} {A A' : AS} {as : List Value} {tg : List Nat} {p : Int32 × Int32}
theorem CInv.wf (h : CInv N t i r A) : Wf A.1.1 := h.2.2.1.1
theorem CInv.cv (h : CInv N t i r A) : CV i 1001 A.1.1 := h.2.2.2.1.1
theorem CInv.ww (h : CInv N t i r A) : WW A.1 := h.2.2.1
theorem CInv.cw (h : CInv N t i r A) : CW i r (r 1001 16) A.1 := h.2.2.2.1
theorem CInv.lw (h : CInv N t i r A) : LwOK (r 1001 16) := h.2.2.2.2.1
theorem CInv.cl (h : CInv N t i r A) : CL t i (r 1001 16) A.2.1 := h.2.2.2.2.2.1
theorem CInv.wl (h : CInv N t i r A) : WL A.2.1 := h.2.2.2.2.2.2.1
theorem CInv.n4 (h : CInv N t i r A) : A.2.2.1 ≤ 400 := h.2.2.2.2.2.2.2.1
theorem CInv.tc (h : CInv N t i r A) : TC i A.2.2.1 A.2.2.2.1 := h.2.2.2.2.2.2.2.2.1
theorem CInv.fl (h : CInv N t i r A) : i 1595 2 = A.2.2.2.2.1 := h.2.2.2.2.2.2.2.2.2.1
theorem CInv.na (h : CInv N t i r A) : NA 1001 (r 1001 16) := h.lw.n
theorem CInv.nb (h : CInv N t i r A) : NA 1075 (r 1001 16) := by
  have := h.lw
  unfold LwOK at this
  unfold NA
  omega
theorem toC_0 (h : p.1 = 0) : toC tg p = .inl p.2 := if_pos h
theorem toC_1 (h : ¬ p.1 = 0) : toC tg p = .inr (tgc tg p.1) := by
  unfold toC tgc
  rw [if_neg h]
  by_cases c1 : p.1 = 1
  · rw [if_pos c1, if_pos c1]
  · rw [if_neg c1, if_neg c1]
    by_cases c2 : p.1 = 2
    · rw [if_pos c2, if_pos c2]
    · rw [if_neg c2, if_neg c2]
theorem crs_end {i' : MI} {r' : MR} {v : Int32 ⊕ Nat} {q : oR × aH} (hq : q = F_ti2 N U t (v, i', r')) (hv : v = toC tg p) (hI : CInv N t i' r' A) (hf : frO i i') : CRs N U t i p tg A q := by
  subst hv
  by_cases c : p.1 = 0
  · rw [toC_0 c] at hq
    exact ⟨N, U, t, i', r', hI, by omega, by omega, hf, rfl, Or.inl ⟨c, hq⟩⟩
  · rw [toC_1 c] at hq
    refine ⟨N + 1, U + 6, _, _, _, hI.aNew (U := U) (tgc tg p.1), by omega, by omega, fun b j h1 h2 => ?_, if_neg (show ¬ 1 = N by have := hI.1.1; omega), Or.inr ⟨c, N, hq, ?_⟩⟩
    · have h9 := hI.1.1
      exact (if_neg (show ¬ b = N by omega)).trans (hf b j h1 h2)
    · show (if N = N then (tgc tg p.1, 0) else t N).1 = _
      rw [if_pos rfl]
theorem cr_ti0 {o : Option (Int32 ⊕ Nat)} (hC : Cn D y as (N, U, t, i, r) o (F_ti0 N U t i r) PT) (ho : o = some (toC tg p)) (hI : CInv N t i r A) (hd : D ≤ d) : Rn d y as (N, U, t, i, r) (CRs N U t i p tg A) :=
  (hC d hd _ ho).2.mono (fun q hq => crs_end (v := toC tg p) (i' := i) (r' := r) (by rw [hq]; cases toC tg p <;> rfl) rfl hI (fun _ _ _ _ => rfl))
theorem cr_i0 {o : Option Int32} {v : Int32} (hC : Cn D y as (N, U, t, i, r) o (F_i0 N U t i r) PT) (ho : o = some v) (hI : CInv N t i r A) (hd : D ≤ d) : Rn d y as (N, U, t, i, r) (CRs N U t i (0, v) [] A) :=
  (hC d hd _ ho).2.mono (fun q hq => ⟨N, U, t, i, r, hI, by omega, by omega, fun _ _ _ _ => rfl, rfl, Or.inl ⟨rfl, hq⟩⟩)
theorem cr_ti1 {o : Option ((Int32 ⊕ Nat) × MI)} (hC : Cn D y as (N, U, t, i, r) o (F_ti1 N U t r) PT) (ho : Tt o (fun y => y.1 = toC tg p ∧ CInv N t y.2 r A ∧ frO i y.2)) (hd : D ≤ d) : Rn d y as (N, U, t, i, r) (CRs N U t i p tg A) := by
  obtain ⟨⟨v, i'⟩, ho, h1, h2, h3⟩ := ho
  exact (hC d hd _ ho).2.mono (fun q hq => crs_end (v := v) (i' := i') (r' := r) (by rw [hq]; cases v <;> rfl) h1 h2 h3)
theorem cr_i1 {o : Option (Int32 × MI)} {v : Int32} (hC : Cn D y as (N, U, t, i, r) o (F_i1 N U t r) PT) (ho : Tt o (fun y => y.1 = v ∧ CInv N t y.2 r A ∧ frO i y.2)) (hd : D ≤ d) : Rn d y as (N, U, t, i, r) (CRs N U t i (0, v) [] A) := by
  obtain ⟨⟨v, i'⟩, ho, rfl, h2, h3⟩ := ho
  exact (hC d hd _ ho).2.mono (fun q hq => ⟨N, U, t, i', r, h2, by omega, by omega, h3, rfl, Or.inl ⟨rfl, hq⟩⟩)
theorem cr_ti2 {o : Option ((Int32 ⊕ Nat) × MI × MR)} (hC : Cn D y as (N, U, t, i, r) o (F_ti2 N U t) (PS2 N t)) (ho : Tt o (fun y => y.1 = toC tg p ∧ (Sh N t y.2.2 → CInv N t y.2.1 y.2.2 A) ∧ frO i y.2.1)) (hd : D ≤ d) : Rn d y as (N, U, t, i, r) (CRs N U t i p tg A) := by
  obtain ⟨⟨v, i', r'⟩, ho, h1, h2, h3⟩ := ho
  have h9 := hC d hd _ ho
  exact h9.2.mono (fun q hq => crs_end (v := v) (i' := i') (r' := r') hq h1 (h2 h9.1) h3)
theorem cr_i2 {o : Option (Int32 × MI × MR)} {v : Int32} (hC : Cn D y as (N, U, t, i, r) o (F_i2 N U t) (PS2 N t)) (ho : Tt o (fun y => y.1 = v ∧ (Sh N t y.2.2 → CInv N t y.2.1 y.2.2 A) ∧ frO i y.2.1)) (hd : D ≤ d) : Rn d y as (N, U, t, i, r) (CRs N U t i (0, v) [] A) := by
  obtain ⟨⟨v, i', r'⟩, ho, rfl, h2, h3⟩ := ho
  have h9 := hC d hd _ ho
  exact h9.2.mono (fun q hq => ⟨N, U, t, i', r', h2 h9.1, by omega, by omega, h3, rfl, Or.inl ⟨rfl, hq⟩⟩)
theorem cq_c {i' : MI} (hI : CInv N t i r A) (h : CQ (r 1001 16) i i') : CInv N t i' r A ∧ frO i i' := by
  have h9 := hI.lw
  unfold LwOK at h9
  exact ⟨hI.up hI.1 (fun _ _ => rfl) (fun b j _ h2 h3 _ => h b j h2 h3) (fun _ _ _ _ _ => rfl), fun b j h1 h2 => h b j (by omega) (by unfold cqs; omega)⟩
theorem cq_c3 {i' : MI} {r' : MR} (hI : CInv N t i r A) (h : CQ (r 1001 16) i i') (hr : RQ r r') : (Sh N t r' → CInv N t i' r' A) ∧ frO i i' := by
  have h9 := hI.lw
  unfold LwOK at h9
  exact ⟨fun s => hI.up s (fun _ _ => rfl) (fun b j _ h2 h3 _ => h b j h2 h3) (fun b k _ h2 _ => hr b k h2), fun b j h1 h2 => h b j (by omega) (by unfold cqs; omega)⟩
theorem co_c {o : Option ((Int32 ⊕ Nat) × MI)} (hI : CInv N t i r A) (h : Tt o (CO tg (r 1001 16) i p)) : Tt o (fun y => y.1 = toC tg p ∧ CInv N t y.2 r A ∧ frO i y.2) :=
  tt_mono h (fun _ hy => ⟨hy.1, cq_c hI hy.2⟩)
theorem co_v {o : Option (Int32 × MI)} {v : Int32} (hI : CInv N t i r A) (h : Tt o (fun y => y.1 = v ∧ CQ (r 1001 16) i y.2)) : Tt o (fun y => y.1 = v ∧ CInv N t y.2 r A ∧ frO i y.2) :=
  tt_mono h (fun _ hy => ⟨hy.1, cq_c hI hy.2⟩)
theorem co3_c {o : Option ((Int32 ⊕ Nat) × MI × MR)} (hI : CInv N t i r A) (h : Tt o (CO3 tg (r 1001 16) i r p)) : Tt o (fun y => y.1 = toC tg p ∧ (Sh N t y.2.2 → CInv N t y.2.1 y.2.2 A) ∧ frO i y.2.1) :=
  tt_mono h (fun _ hy => ⟨hy.1, cq_c3 hI hy.2.1 hy.2.2⟩)
theorem fa_c {W' : PW} {i' : MI} {r' : MR} (hI : CInv N t i r A) (hw : WW W') (hcw : CW i' r' (r 1001 16) W') (hf : fa (r 1001 16) i i') (hr : fR r r') : (Sh N t r' → CInv N t i' r' (W', A.2)) ∧ frO i i' := by
  have h9 := hI.lw
  unfold LwOK at h9
  obtain ⟨W, L, n, T, f, K⟩ := A
  refine ⟨fun s => CInv.gen hI s (fun _ _ => rfl) hw hcw hI.n4 ⟨?_, fun k hk => ?_⟩ ?_ (fun b j h1 h2 h3 h4 h5 h6 h7 _ => hf b j h2 (by omega) h4 h5) (hr _ _ (by omega) (by unfold cqs; omega)), fun b j h1 h2 => hf b j (by omega) (by omega) (by omega) (by unfold cqs; omega)⟩
  · exact (hf _ _ (by omega) (by omega) (by omega) (by unfold cqs; omega)).trans hI.tc.1
  · exact (hf _ _ (by omega) (by omega) (by omega) (by unfold cqs; omega)).trans (hI.tc.2 k hk)
  · exact (hf _ _ (by omega) (by omega) (by omega) (by unfold cqs; omega)).trans hI.fl
theorem ca_c {o : Option ((Int32 ⊕ Nat) × MI × MR)} {q : (Int32 × Int32) × PW} (hI : CInv N t i r A) (h : Tt o (CA tg (r 1001 16) i r q)) : Tt o (fun y => y.1 = toC tg q.1 ∧ (Sh N t y.2.2 → CInv N t y.2.1 y.2.2 (q.2, A.2)) ∧ frO i y.2.1) :=
  tt_mono h (fun _ hy => ⟨hy.1, fa_c hI hy.2.1.1 hy.2.1.2 hy.2.2.1 hy.2.2.2⟩)
theorem tp_c {n' : Nat} {T' : Nat → Int32} {i' : MI} (hI : CInv N t i r A) (hn : n' ≤ 400) (hT : TC i' n' T') (hf : ∀ b j, b ≠ 1595 → b ≠ 1596 → (b < 1631 ∨ 1636 ≤ b) → i' b j = i b j) (h2 : i' 1595 2 = i 1595 2) : CInv N t i' r (A.1, A.2.1, n', T', A.2.2.2.2) ∧ frO i i' := by
  have h9 := hI.lw
  unfold LwOK at h9
  obtain ⟨W, L, n, T, f, K⟩ := A
  have hw := hI.ww
  have hcw := hI.cw
  refine ⟨CInv.gen hI hI.1 (fun _ _ => rfl) hw ⟨hcw.1.congr (fun b j q1 q2 => hf b j (by omega) (by omega) (by omega)) hw.1.1, rfl, hcw.2.2.congr hw.2.2 (fun b j q1 q2 => hf b j (by omega) (by omega) (by omega)) (fun _ _ _ _ => rfl)⟩ hn hT (h2.trans hI.fl) (fun b j q1 q2 q3 q4 q5 q6 q7 _ => hf b j (by unfold cqs at q5; omega) q7 (by unfold cqs at q5; omega)) rfl, fun b j q1 q2 => hf b j (by omega) (by omega) (by omega)⟩

theorem C_cell (hI : CInv N t i r A) (x w : Int32) (hd : 300 ≤ d) : Rn d 126 [.ref 1000, .int x, .int w] (N, U, t, i, r) (CRs N U t i (spCell A.1.1 x w) [22, 24] A) :=
  cr_ti0 (c_Lc_cell hI.1 x w) (v_cell hI.wf hI.cv x w) hI (by omega)
theorem C_boat (hI : CInv N t i r A) (x w : Int32) (hd : 300 ≤ d) : Rn d 128 [.ref 1000, .int x, .int w] (N, U, t, i, r) (CRs N U t i (spBoat A.1.1 x w) [22, 24] A) :=
  cr_ti0 (c_Lc_boat hI.1 x w) (v_boat hI.wf hI.cv x w) hI (by omega)
theorem C_dead (hI : CInv N t i r A) (x w : Int32) (hd : 300 ≤ d) : Rn d 130 [.ref 1000, .int x, .int w] (N, U, t, i, r) (CRs N U t i (spDead A.1.1 x w) [22, 24] A) :=
  cr_ti0 (c_Lc_dead hI.1 x w) (v_dead hI.wf hI.cv x w) hI (by omega)
theorem C_rests (hI : CInv N t i r A) (x w : Int32) (hd : 300 ≤ d) : Rn d 156 [.ref 1000, .int x, .int w] (N, U, t, i, r) (CRs N U t i (spRests A.1.1 x w) [22] A) :=
  cr_ti0 (c_Lc_rests hI.1 x w) (v_rests hI.wf hI.cv x w) hI (by omega)
theorem C_kind (hI : CInv N t i r A) (x : Int32) (hd : 300 ≤ d) : Rn d 160 [.ref 1000, .int x] (N, U, t, i, r) (CRs N U t i (spKind A.1.1 x) [22] A) :=
  cr_ti0 (c_Lc_kind hI.1 x) (v_kind hI.wf hI.cv x) hI (by omega)
theorem C_meets (hI : CInv N t i r A) (x w : Int32) (hd : 300 ≤ d) : Rn d 141 [.ref 1000, .int x, .int w] (N, U, t, i, r) (CRs N U t i (spMeets A.1.1 x w) [22] A) :=
  cr_ti0 (c_Lc_meets hI.1 x w) (v_meets hI.wf hI.cv x w) hI (by omega)
theorem C_fewest (hI : CInv N t i r A) (x : Int32) (hd : 300 ≤ d) : Rn d 148 [.ref 1000, .int x] (N, U, t, i, r) (CRs N U t i (spFewest A.1.1 x) [20] A) :=
  cr_ti0 (c_Lc_fewest hI.1 x) (v_fewest hI.wf hI.cv x) hI (by omega)
theorem C_led (hI : CInv N t i r A) (x w : Int32) (hd : 300 ≤ d) : Rn d 168 [.ref 1000, .int x, .int w] (N, U, t, i, r) (CRs N U t i (spLed A.1.1 x w) [22] A) :=
  cr_ti0 (c_Lc_led hI.1 x w) (v_led hI.wf hI.cv x w) hI (by omega)
theorem C_log (hI : CInv N t i r A) (x w : Int32) (hd : 300 ≤ d) : Rn d 169 [.ref 1000, .int x, .int w] (N, U, t, i, r) (CRs N U t i (spLog A.1.1 x w) [24] A) :=
  cr_ti0 (c_Lc_log hI.1 x w) (v_log hI.wf hI.cv x w) hI (by omega)
theorem C_odds (hI : CInv N t i r A) (x : Int32) (hd : 300 ≤ d) : Rn d 157 [.ref 1000, .int x] (N, U, t, i, r) (CRs N U t i (spOdds A.1.1 x) [20] A) :=
  cr_ti0 (c_Lc_odds hI.1 x) (v_odds hI.wf hI.cv x) hI (by omega)
theorem C_lost (hI : CInv N t i r A) (hd : 300 ≤ d) : Rn d 142 [.ref 1000] (N, U, t, i, r) (CRs N U t i (0, (nI (lst A.1.1))) [] A) :=
  cr_i0 (c_Lc_lost hI.1) (v_lost hI.wf hI.cv) hI (by omega)
theorem C_twins (hI : CInv N t i r A) (hd : 300 ≤ d) : Rn d 161 [.ref 1000] (N, U, t, i, r) (CRs N U t i (0, (fo (twn1 A.1.1) (nf A.1.1) 0)) [] A) :=
  cr_i0 (c_Lc_twins hI.1) (v_twins hI.wf hI.cv) hI (by omega)
theorem C_slab (hI : CInv N t i r A) (hd : 300 ≤ d) : Rn d 162 [.ref 1000] (N, U, t, i, r) (CRs N U t i (0, (nI (plc A.1.1 2))) [] A) :=
  cr_i0 (c_Lc_slab hI.1) ((v_sets hI.wf hI.cv).1) hI (by omega)
theorem C_sea (hI : CInv N t i r A) (hd : 300 ≤ d) : Rn d 163 [.ref 1000] (N, U, t, i, r) (CRs N U t i (0, (nI (plc A.1.1 0))) [] A) :=
  cr_i0 (c_Lc_sea hI.1) ((v_sets hI.wf hI.cv).2.1) hI (by omega)
theorem C_gone (hI : CInv N t i r A) (hd : 300 ≤ d) : Rn d 164 [.ref 1000] (N, U, t, i, r) (CRs N U t i (0, (nI (plc A.1.1 3))) [] A) :=
  cr_i0 (c_Lc_gone hI.1) ((v_sets hI.wf hI.cv).2.2) hI (by omega)
theorem C_freshest (hI : CInv N t i r A) (hd : 300 ≤ d) : Rn d 158 [.ref 1000] (N, U, t, i, r) (CRs N U t i (0, (frs A.1.1 (fun f => decide (A.1.1 2 f 3 = 2)))) [] A) :=
  cr_i0 (c_Lc_freshest hI.1) (v_freshestA hI.wf hI.cv) hI (by omega)
theorem C_fault (hI : CInv N t i r A) (hd : 300 ≤ d) : Rn d 125 [.ref 1000] (N, U, t, i, r) (CRs N U t i (0, A.2.2.2.2.1) [] A) :=
  cr_i0 (c_Lc_fault hI.1) ((congrArg some hI.fl)) hI (by omega)
theorem C_count (hI : CInv N t i r A) (x : Int32) (hd : 300 ≤ d) : Rn d 174 [.ref 1000, .int x] (N, U, t, i, r) (CRs N U t i (0, spCount A.1.1 A.2.1 (nI A.1.2.1) x) [] A) :=
  cr_i0 (c_Lc_count hI.1 x) (v_count hI.wf hI.cv hI.cl hI.cw.2.2.1 x) hI (by omega)
theorem C_buyer (hI : CInv N t i r A) (x w : Int32) (hd : 300 ≤ d) : Rn d 129 [.ref 1000, .int x, .int w] (N, U, t, i, r) (CRs N U t i (spBuyer A.1.1 A.2.1 x w) [22, 24] A) :=
  cr_ti1 (c_Lc_buyer hI.1 x w) (co_c hI (v_buyer hI.wf hI.cv hI.wl hI.cl hI.na x w)) (by omega)
theorem C_haul (hI : CInv N t i r A) (x w : Int32) (hd : 300 ≤ d) : Rn d 143 [.ref 1000, .int x, .int w] (N, U, t, i, r) (CRs N U t i (spHaul A.1.1 x w) [22, 20] A) :=
  cr_ti1 (c_Lc_haul hI.1 x w) (co_c hI (v_haul hI.wf hI.cv x w)) (by omega)
theorem C_first (hI : CInv N t i r A) (x w : Int32) (hd : 300 ≤ d) : Rn d 144 [.ref 1000, .int x, .int w] (N, U, t, i, r) (CRs N U t i (spFirst A.1.1 x w) [22, 20] A) :=
  cr_ti1 (c_Lc_first hI.1 x w) (co_c hI (v_first hI.wf hI.cv x w)) (by omega)
theorem C_whose (hI : CInv N t i r A) (x : Int32) (hd : 300 ≤ d) : Rn d 146 [.ref 1000, .int x] (N, U, t, i, r) (CRs N U t i (spWhose A.1.1 x) [22] A) :=
  cr_ti1 (c_Lc_whose hI.1 x) (co_c hI (v_whose hI.wf hI.cv x)) (by omega)
theorem C_parted (hI : CInv N t i r A) (x : Int32) (hd : 300 ≤ d) : Rn d 147 [.ref 1000, .int x] (N, U, t, i, r) (CRs N U t i (spParted A.1.1 x) [20] A) :=
  cr_ti1 (c_Lc_parted hI.1 x) (co_c hI (v_parted hI.wf hI.cv x)) (by omega)
theorem C_sale (hI : CInv N t i r A) (x : Int32) (hd : 300 ≤ d) : Rn d 151 [.ref 1000, .int x] (N, U, t, i, r) (CRs N U t i (spSale A.1.1 A.2.1 x) [22] A) :=
  cr_ti1 (c_Lc_sale hI.1 x) (co_c hI (v_sale hI.wf hI.cv hI.wl hI.cl hI.lw x)) (by omega)
theorem C_pairs (hI : CInv N t i r A) (x : Int32) (hd : 300 ≤ d) : Rn d 155 [.ref 1000, .int x] (N, U, t, i, r) (CRs N U t i (spPairs A.1.1 x) [22] A) :=
  cr_ti1 (c_Lc_pairs hI.1 x) (co_c hI (v_pairs hI.wf hI.cv x)) (by omega)
theorem C_eddy (hI : CInv N t i r A) (hd : 300 ≤ d) : Rn d 145 [.ref 1000] (N, U, t, i, r) (CRs N U t i (0, (spEddy A.1.1)) [] A) :=
  cr_i1 (c_Lc_eddy hI.1 ) (co_v hI (v_eddy hI.wf hI.cv )) (by omega)
theorem C_without (hI : CInv N t i r A) (hd : 300 ≤ d) : Rn d 152 [.ref 1000] (N, U, t, i, r) (CRs N U t i (0, (nI (wto A.1.1 A.2.1))) [] A) :=
  cr_i1 (c_Lc_without hI.1 ) (co_v hI (v_without hI.wf hI.cv hI.wl hI.cl hI.na )) (by omega)
theorem C_dearest (hI : CInv N t i r A) (hd : 300 ≤ d) : Rn d 159 [.ref 1000] (N, U, t, i, r) (CRs N U t i (0, (fo (dsg A.1.1 A.2.1) (nf A.1.1) (-1))) [] A) :=
  cr_i1 (c_Lc_dearest hI.1 ) (co_v hI (v_dearest hI.wf hI.cv hI.wl hI.cl hI.na )) (by omega)
theorem C_order (hI : CInv N t i r A) (x : Int32) (hd : 300 ≤ d) : Rn d 153 [.ref 1000, .int x] (N, U, t, i, r) (CRs N U t i (0, (spOrder A.1.1 A.2.1 x)) [] A) :=
  cr_i1 (c_Lc_order hI.1 x) (co_v hI (v_order hI.wf hI.cv hI.wl hI.cl hI.lw x)) (by omega)
theorem C_fish (hI : CInv N t i r A) (x w : Int32) (hd : 300 ≤ d) : Rn d 127 [.ref 1000, .int x, .int w] (N, U, t, i, r) (CRs N U t i (spFish A.1.1 A.2.1 x w) [22, 24] A) :=
  cr_ti2 (c_Lc_fish hI.1 x w) (co3_c hI (v_fish hI.wf hI.cv hI.wl hI.cl hI.na hI.nb x w)) (by omega)
theorem C_where (hI : CInv N t i r A) (x w : Int32) (hd : 300 ≤ d) : Rn d 140 [.ref 1000, .int x, .int w] (N, U, t, i, r) (CRs N U t i (spWhere A.1.1 A.2.1 x w) [22, 20] A) :=
  cr_ti2 (c_Lc_where hI.1 x w) (co3_c hI (v_where hI.wf hI.cv hI.wl hI.cl hI.nb x w)) (by omega)
theorem C_spoils (hI : CInv N t i r A) (x : Int32) (hd : 300 ≤ d) : Rn d 165 [.ref 1000, .int x] (N, U, t, i, r) (CRs N U t i (spSpoils A.1.1 A.2.1 x) [20] A) :=
  cr_ti2 (c_Lc_spoils hI.1 x) (co3_c hI (v_spoils hI.wf hI.cv hI.wl hI.cl hI.na hI.nb x)) (by omega)
theorem C_trial (hI : CInv N t i r A) (x w : Int32) (hd : 300 ≤ d) : Rn d 166 [.ref 1000, .int x, .int w] (N, U, t, i, r) (CRs N U t i (spTrial A.1.1 A.2.1 x w) [20] A) :=
  cr_ti2 (c_Lc_trial hI.1 x w) (co3_c hI (v_trial hI.wf hI.cv hI.wl hI.cl hI.nb x w)) (by omega)
theorem C_span (hI : CInv N t i r A) (x w : Int32) (hd : 300 ≤ d) : Rn d 167 [.ref 1000, .int x, .int w] (N, U, t, i, r) (CRs N U t i (spSpan A.1.1 A.2.1 x w) [20] A) :=
  cr_ti2 (c_Lc_span hI.1 x w) (co3_c hI (v_span hI.wf hI.cv hI.wl hI.cl hI.na hI.nb x w)) (by omega)
theorem C_chase (hI : CInv N t i r A) (x w : Int32) (hd : 300 ≤ d) : Rn d 154 [.ref 1000, .int x, .int w] (N, U, t, i, r) (CRs N U t i (spChase x w) [20] A) :=
  cr_ti2 (c_Lc_chase hI.1 x w) (co3_c hI (v_chase hI.1.2.2.2.2.2.2.1 x w)) (by omega)
theorem C_days (hI : CInv N t i r A) (x : Int32) (hd : 300 ≤ d) : Rn d 131 [.ref 1000, .int x] (N, U, t, i, r) (CRs N U t i (spDays A.1 A.2.1 x).1 [20] ((spDays A.1 A.2.1 x).2, A.2)) :=
  cr_ti2 (c_Lc_days hI.1 x) (ca_c hI (v_days hI.ww hI.cw hI.lw hI.wl hI.cl x)) (by omega)
theorem C_heads (hI : CInv N t i r A) (x w : Int32) (hd : 300 ≤ d) : Rn d 132 [.ref 1000, .int x, .int w] (N, U, t, i, r) (CRs N U t i (spHeads A.1 x w).1 [22] ((spHeads A.1 x w).2, A.2)) :=
  cr_ti2 (c_Lc_heads hI.1 x w) (ca_c hI (v_heads hI.ww hI.cw hI.lw.a x w)) (by omega)
theorem C_ice (hI : CInv N t i r A) (x : Int32) (hd : 300 ≤ d) : Rn d 133 [.ref 1000, .int x] (N, U, t, i, r) (CRs N U t i (spIce A.1 x).1 [20] ((spIce A.1 x).2, A.2)) :=
  cr_ti2 (c_Lc_ice hI.1 x) (ca_c hI (v_ice hI.ww hI.cw hI.lw.a x)) (by omega)
theorem C_sponge (hI : CInv N t i r A) (x w : Int32) (hd : 300 ≤ d) : Rn d 134 [.ref 1000, .int x, .int w] (N, U, t, i, r) (CRs N U t i (spSponge A.1 x w).1 [22, 20, 21] ((spSponge A.1 x w).2, A.2)) :=
  cr_ti2 (c_Lc_sponge hI.1 x w) (ca_c hI (v_sponge hI.ww hI.cw hI.lw.a x w)) (by omega)
theorem C_pay (hI : CInv N t i r A) (x w : Int32) (hd : 300 ≤ d) : Rn d 135 [.ref 1000, .int x, .int w] (N, U, t, i, r) (CRs N U t i (spPay A.1 x w).1 [22, 20] ((spPay A.1 x w).2, A.2)) :=
  cr_ti2 (c_Lc_pay hI.1 x w) (ca_c hI (v_pay hI.ww hI.cw hI.lw.a x w)) (by omega)
theorem C_tell (hI : CInv N t i r A) (x w z : Int32) (hd : 300 ≤ d) : Rn d 136 [.ref 1000, .int x, .int w, .int z] (N, U, t, i, r) (CRs N U t i (spTell A.1 x w z).1 [22, 20, 21] ((spTell A.1 x w z).2, A.2)) :=
  cr_ti2 (c_Lc_tell hI.1 x w z) (ca_c hI (v_tell hI.ww hI.cw hI.lw x w z)) (by omega)
theorem C_release (hI : CInv N t i r A) (x : Int32) (hd : 300 ≤ d) : Rn d 137 [.ref 1000, .int x] (N, U, t, i, r) (CRs N U t i (spRelease A.1 x).1 [22, 21] ((spRelease A.1 x).2, A.2)) :=
  cr_ti2 (c_Lc_release hI.1 x) (ca_c hI (v_release hI.ww hI.cw hI.lw x)) (by omega)
theorem C_current (hI : CInv N t i r A) (x w : Int32) (hd : 300 ≤ d) : Rn d 138 [.ref 1000, .int x, .int w] (N, U, t, i, r) (CRs N U t i (spCurrent A.1 x w).1 [22, 20] ((spCurrent A.1 x w).2, A.2)) :=
  cr_ti2 (c_Lc_current hI.1 x w) (ca_c hI (v_current hI.ww hI.cw hI.lw.a x w)) (by omega)
theorem C_sell (hI : CInv N t i r A) (x w : Int32) (hd : 300 ≤ d) : Rn d 139 [.ref 1000, .int x, .int w] (N, U, t, i, r) (CRs N U t i (spSell A.1 A.2.1 x w).1 [22, 21] ((spSell A.1 A.2.1 x w).2, A.2)) :=
  cr_ti2 (c_Lc_sell hI.1 x w) (ca_c hI (v_sell hI.ww hI.cw hI.lw hI.wl hI.cl x w)) (by omega)
theorem feed_n {n : Nat} {T : Nat → Int32} {x1 x2 x3 x4 x5 : Int32} (h : n ≤ 400) : (spFeed n T x1 x2 x3 x4 x5).2.1 ≤ 400 := by
  unfold spFeed
  split
  · rename_i h1; exact h1
  · exact h
theorem end_n {n : Nat} {x : Int32} (h : n ≤ 400) : (spEnd n x).2 ≤ 400 := by
  unfold spEnd
  split
  · rename_i h1
    obtain ⟨g, hg, rfl⟩ := okx_of (by omega) h1
    show ix (nI g) ≤ 400
    rw [ix_nI (by omega)]
    omega
  · exact h
theorem C_feed (hI : CInv N t i r A) (x1 x2 x3 x4 x5 : Int32) (hd : 300 ≤ d) : Rn d 121 [.ref 1000, .int x1, .int x2, .int x3, .int x4, .int x5] (N, U, t, i, r) (CRs N U t i (0, (spFeed A.2.2.1 A.2.2.2.1 x1 x2 x3 x4 x5).1) [] (A.1, A.2.1, (spFeed A.2.2.1 A.2.2.2.1 x1 x2 x3 x4 x5).2.1, (spFeed A.2.2.1 A.2.2.2.1 x1 x2 x3 x4 x5).2.2, A.2.2.2.2)) :=
  cr_i1 (c_Lc_feed hI.1 x1 x2 x3 x4 x5) (tt_mono (v_feed hI.tc hI.n4 x1 x2 x3 x4 x5) (fun _ hy => ⟨hy.1, tp_c hI (feed_n hI.n4) hy.2.1 (fun b j h1 h2 _ => hy.2.2.1 b j h1 h2) (hy.2.2.2 2 (by decide))⟩)) (by omega)
theorem C_end (hI : CInv N t i r A) (x : Int32) (hd : 300 ≤ d) : Rn d 122 [.ref 1000, .int x] (N, U, t, i, r) (CRs N U t i (0, (spEnd A.2.2.1 x).1) [] (A.1, A.2.1, (spEnd A.2.2.1 x).2, A.2.2.2.1, A.2.2.2.2)) :=
  cr_i1 (c_Lc_end hI.1 x) (tt_mono (v_end hI.tc hI.n4 x) (fun _ hy => ⟨hy.1, tp_c hI (end_n hI.n4) hy.2.1 (fun b j h1 h2 _ => hy.2.2.1 b j h1 h2) (hy.2.2.2 2 (by decide))⟩)) (by omega)
theorem C_turned (hI : CInv N t i r A) (x : Int32) (hd : 300 ≤ d) : Rn d 149 [.ref 1000, .int x] (N, U, t, i, r) (CRs N U t i (spTurned A.2.2.1 A.2.2.2.1 x) [20] (A.1, A.2.1, 0, A.2.2.2.1, A.2.2.2.2)) :=
  cr_ti1 (c_Lc_turned hI.1 x) (tt_mono (v_turned hI.tc hI.n4 x) (fun _ hy => ⟨hy.1, tp_c hI (Nat.zero_le _) hy.2.1 (fun b j h1 _ h3 => hy.2.2.1 b j h1 h3) (hy.2.2.2 2 (by decide))⟩)) (by omega)
theorem C_ask (hI : CInv N t i r A) (hd : 300 ≤ d) : Rn d 150 [.ref 1000] (N, U, t, i, r) (CRs N U t i (spAsk A.2.2.1 A.2.2.2.1) [20] (A.1, A.2.1, 0, A.2.2.2.1, A.2.2.2.2)) :=
  cr_ti1 (c_Lc_ask hI.1) (tt_mono (v_ask hI.tc hI.n4) (fun _ hy => ⟨hy.1, tp_c hI (Nat.zero_le _) hy.2.1 (fun b j h1 _ h3 => hy.2.2.1 b j h1 h3) (hy.2.2.2 2 (by decide))⟩)) (by omega)
theorem C_seed (hI : CInv N t i r A) (x : Int32) (hd : 300 ≤ d) : Rn d 170 [.ref 1000, .int x] (N, U, t, i, r) (CRs N U t i (0, A.1.1 0 0 10) [] ((su A.1.1 0 0 10 x, A.1.2), A.2)) :=
  by
  obtain ⟨e1, e2, e3⟩ := v_seed hI.wf hI.cv x
  have hx : ∀ b j, ¬ (b = 1001 ∧ j = 15) → wr i 1001 15 x b j = i b j := fun b j hb => if_neg hb
  have hcw := hI.cw
  have hww := hI.ww
  have h9 := hI.lw
  unfold LwOK at h9
  refine cr_i1 (c_Lc_seed hI.1 x) ⟨_, e1, rfl, ?_, fun b j h1 h2 => hx b j (by omega)⟩ (by omega)
  obtain ⟨W, L, n, T, f, K⟩ := A
  exact CInv.gen hI hI.1 (fun _ _ => rfl) ⟨e3, hww.2⟩ ⟨e2, rfl, hcw.2.2.congr hww.2.2 (fun b j q1 q2 => hx b j (by omega)) (fun _ _ _ _ => rfl)⟩ hI.n4 ⟨(hx _ _ (by omega)).trans hI.tc.1, fun k hk => (hx _ _ (by omega)).trans (hI.tc.2 k hk)⟩ ((hx _ _ (by omega)).trans hI.fl) (fun b j q1 q2 q3 q4 q5 q6 q7 _ => hx b j (by omega)) rfl
theorem C_undo (hI : CInv N t i r A) (hd : 300 ≤ d) : Rn d 171 [.ref 1000] (N, U, t, i, r) (CRs N U t i (0, (spUndo A.1).1.2) [] ((spUndo A.1).2, A.2)) :=
  cr_i2 (c_Lc_undo hI.1) (tt_mono (v_undo hI.ww hI.cw) (fun _ hy => ⟨hy.1, fa_c hI hy.2.1.1 hy.2.1.2 hy.2.2.1 hy.2.2.2⟩)) (by omega)
theorem C_waters (hI : CInv N t i r A) (hd : 300 ≤ d) : Rn d 123 [.ref 1000] (N, U, t, i, r) (CRs N U t i (spWaters A.2.2.1 A.2.2.2.1 A.1).1 [20, 23] ((spWaters A.2.2.1 A.2.2.2.1 A.1).2.2, A.2.1, 0, A.2.2.2.1, (spWaters A.2.2.1 A.2.2.2.1 A.1).2.1, A.2.2.2.2.2)) :=
  by
  have h9 := hI.lw
  unfold LwOK at h9
  refine cr_ti2 (c_Lc_waters hI.1) (tt_mono (v_waters hI.2.1 hI.n4 hI.tc hI.ww hI.cw) (fun y hy => ?_)) (by omega)
  obtain ⟨a1, ⟨a2, a3⟩, a4, a5, a6, a7⟩ := hy
  refine ⟨a1, fun s => ?_, fun b j h1 h2 => a6.1 b j (by omega) (by omega) (by omega) (by unfold cqs; omega)⟩
  obtain ⟨W, L, n, T, f, K⟩ := A
  exact CInv.gen hI s (fun _ _ => rfl) a2 a3 (Nat.zero_le _) ⟨a5, fun k hk => absurd hk (Nat.not_lt_zero k)⟩ a4 (fun b j q1 q2 q3 q4 q5 q6 q7 _ => a6.1 b j q2 (by omega) (by omega) q5) (a7 _ _ (by omega) (by unfold cqs; omega))
end CALLS
