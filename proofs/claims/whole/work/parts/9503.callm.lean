/-! ===== every call of the reference, told of the world (written by wip/gen/mk9503.py) ===== -/
def AOK (A : AS) : Prop := WW A.1 ∧ WL A.2.1 ∧ A.2.2.1 ≤ 400 ∧ ∀ p, A.2.2.2.2.2 = some p → Wf p.1 ∧ WL p.2
abbrev frM (i i' : MI) : Prop := ∀ b j, (b < 1638 ∨ 1658 ≤ b) → i' b j = i b j
/-- a call of the reference ended -/
def MRs (N U : Nat) (t : MT) (i : MI) (r : MR) (p : Int32 × Int32) (A : AS) (q : oR × aH) : Prop := ∃ v i', q = (.inl (some (.int v)), (N, U, t, i', r)) ∧ i' 1638 0 = p.1 ∧ (p.1 = 0 → v = p.2) ∧ MInv i' A ∧ frM i i'
section CALLM
variable {N U d D y : Nat} {t : MT} {i : MI} {r : MR} {A A' : AS} {as : List Value} {p : Int32 × Int32}
theorem CInv.ok (h : CInv N t i r A) : AOK A := by
  obtain ⟨W, L, n, T, f, K⟩ := A
  refine ⟨h.ww, h.wl, h.n4, fun p hp => ?_⟩
  obtain ⟨-, -, -, -, -, -, -, -, -, -, -, hk⟩ := h
  dsimp only at hk hp
  subst hp
  exact ⟨hk.2.1, hk.2.2.2.2.2⟩
theorem AOK.wf (h : AOK A) : Wf A.1.1 := h.1.1
theorem mr_i1 {o : Option (Int32 × MI)} (hC : Cn D y as (N, U, t, i, r) o (F_i1 N U t r) PT) (ho : Tt o (fun y => y.2 1638 0 = p.1 ∧ (p.1 = 0 → y.1 = p.2) ∧ MInv y.2 A ∧ frM i y.2)) (hd : D ≤ d) : Rn d y as (N, U, t, i, r) (MRs N U t i r p A) := by
  obtain ⟨⟨v, i'⟩, ho, h1, h2, h3, h4⟩ := ho
  exact (hC d hd _ ho).2.mono (fun q hq => ⟨v, i', hq, h1, h2, h3, h4⟩)
theorem mp_e {i' : MI} {n : Nat} {H : Nat → SS} (h : MP i n H) (e7 : i' 1638 7 = i 1638 7) (e43 : i' 1643 = i 1643) (e5 : i' 1639 5 = i 1639 5) : MP i' n H := by
  unfold MP at h ⊢
  rw [e7, e43, e5]
  exact h
theorem mi_e {i' : MI} (hM : MInv i A) (hb : ∀ b j, b = 1639 ∨ b = 1640 ∨ b = 1643 ∨ b = 1644 → i' b j = i b j) (h7 : i' 1638 7 = i 1638 7) (h9 : i' 1638 9 = i 1638 9) (h14 : i' 1638 14 = i 1638 14) (h6 : i' 1638 6 = i 1638 6) : MInv i' A := by
  obtain ⟨W, L, n, T, f, K⟩ := A
  exact MInv.gen hM ⟨hM.1.1.congr (fun k => hb 1639 k (by omega)), mp_e hM.1.2 h7 (funext fun j => hb 1643 j (by omega)) (hb _ _ (by omega))⟩ ⟨h9.trans hM.2.2.1.1, fun k hk => (hb _ _ (by omega)).trans (hM.2.2.1.2 k hk)⟩ (h14.trans hM.2.2.2.1) (fun j _ => hb _ _ (by omega)) h6 (fun j => hb _ _ (by omega))
theorem MV.cong4L {i i' : MI} {S : SS} (h : MV i S) (he : ∀ k, k < 417 → k ≠ 5 → i' 1639 k = i 1639 k) : MV i' S := by
  obtain ⟨h1, h2, h3, h4, h5, h6, h7⟩ := h
  exact ⟨fun k hk q => (he k (by omega) q).trans (h1 k hk q), fun c hc => (he _ (by omega) (by omega)).trans (h2 c hc), fun f hf k hk => (he _ (by omega) (by omega)).trans (h3 f hf k hk), fun f hf k hk => (he _ (by omega) (by omega)).trans (h4 f hf k hk), fun f hf k hk => (he _ (by omega) (by omega)).trans (h5 f hf k hk), fun f hf k hk => (he _ (by omega) (by omega)).trans (h6 f hf k hk), fun f hf k hk => (he _ (by omega) (by omega)).trans (h7 f hf k hk)⟩
theorem mo_c {o : Option (Int32 × MI)} (hM : MInv i A) (h : Tt o (MO i p)) : Tt o (fun y => y.2 1638 0 = p.1 ∧ (p.1 = 0 → y.1 = p.2) ∧ MInv y.2 A ∧ frM i y.2) :=
  tt_mono h (fun y hy => ⟨hy.1, hy.2.1, mi_e hM (fun b j hb => hy.2.2.1 b j (by omega)) (hy.2.2.2 _ (by decide)) (hy.2.2.2 _ (by decide)) (hy.2.2.2 _ (by decide)) (hy.2.2.2 _ (by decide)), fun b j hb => hy.2.2.1 b j (by omega)⟩)
theorem ma_c {o : Option (Int32 × MI)} {q : (Int32 × Int32) × PW} (hM : MInv i A) (h : Tt o (MA i q)) : Tt o (fun y => y.2 1638 0 = q.1.1 ∧ (q.1.1 = 0 → y.1 = q.1.2) ∧ MInv y.2 (q.2, A.2) ∧ frM i y.2) := by
  obtain ⟨W, L, n, T, f, K⟩ := A
  refine tt_mono h (fun y hy => ⟨hy.1, hy.2.1, ?_, fun b j hb => hy.2.2.2.1 b j (by omega)⟩)
  obtain ⟨-, -, h3, h4, h5, h6⟩ := hy
  exact MInv.gen hM h3 ⟨(h5 _ (by decide) (by decide)).trans hM.2.2.1.1, fun k hk => (h4 _ _ (by omega)).trans (hM.2.2.1.2 k hk)⟩ ((h5 _ (by decide) (by decide)).trans hM.2.2.2.1) h6 (h5 _ (by decide) (by decide)) (fun j => h4 _ _ (by omega))
theorem mu_c {o : Option (Int32 × MI)} (hM : MInv i A) (h : Tt o (UO i p)) : Tt o (fun y => y.2 1638 0 = p.1 ∧ (p.1 = 0 → y.1 = p.2) ∧ MInv y.2 (A.1, A.2.1, 0, A.2.2.2.1, A.2.2.2.2) ∧ frM i y.2) := by
  obtain ⟨W, L, n, T, f, K⟩ := A
  refine tt_mono h (fun y hy => ⟨hy.1, hy.2.1, ?_, fun b j hb => hy.2.2.2.1 b j (by omega)⟩)
  obtain ⟨-, -, h3, h4, h5⟩ := hy
  exact MInv.gen hM ⟨hM.1.1.congr (fun k => h4 1639 k (by omega)), mp_e hM.1.2 (h5 _ (by decide) (by decide) (by decide) (by decide)) (funext fun j => h4 1643 j (by omega)) (h4 _ _ (by omega))⟩ ⟨h3, fun k hk => absurd hk (Nat.not_lt_zero k)⟩ ((h5 _ (by decide) (by decide) (by decide) (by decide)).trans hM.2.2.2.1) (fun j _ => h4 _ _ (by omega)) (h5 _ (by decide) (by decide) (by decide) (by decide)) (fun j => h4 _ _ (by omega))
theorem mt_c {o : Option (Int32 × MI)} {v : Int32} {n' : Nat} {T' : Nat → Int32} (hM : MInv i A) (h : Tt o (fun y => (y.2 1638 0 = 0 ∧ y.1 = v) ∧ TM y.2 n' T' ∧ ftm i y.2)) : Tt o (fun y => y.2 1638 0 = (0 : Int32) ∧ ((0 : Int32) = 0 → y.1 = v) ∧ MInv y.2 (A.1, A.2.1, n', T', A.2.2.2.2) ∧ frM i y.2) := by
  obtain ⟨W, L, n, T, f, K⟩ := A
  refine tt_mono h (fun y hy => ⟨hy.1.1, fun _ => hy.1.2, ?_, fun b j hb => hy.2.2.1 b j (by omega) (by omega) (by omega)⟩)
  obtain ⟨-, h3, h4, h5⟩ := hy
  exact MInv.gen hM ⟨hM.1.1.congr (fun k => h4 1639 k (by omega) (by omega) (by omega)), mp_e hM.1.2 (h5 _ (by decide) (by decide)) (funext fun j => h4 1643 j (by omega) (by omega) (by omega)) (h4 _ _ (by omega) (by omega) (by omega))⟩ h3 ((h5 _ (by decide) (by decide)).trans hM.2.2.2.1) (fun j _ => h4 _ _ (by omega) (by omega) (by omega)) (h5 _ (by decide) (by decide)) (fun j => h4 _ _ (by omega) (by omega) (by omega))

theorem M_cell (s : Sh N t r) (ha : AOK A) (hM : MInv i A) (x w : Int32) (hd : 300 ≤ d) : Rn d 275 [.ref 1638, .int x, .int w] (N, U, t, i, r) (MRs N U t i r (spCell A.1.1 x w) A) :=
  mr_i1 (c_Mo_cell s x w) (mo_c hM (m_cell ha.wf hM.1.1 x w)) (by omega)
theorem M_rests (s : Sh N t r) (ha : AOK A) (hM : MInv i A) (x w : Int32) (hd : 300 ≤ d) : Rn d 340 [.ref 1638, .int x, .int w] (N, U, t, i, r) (MRs N U t i r (spRests A.1.1 x w) A) :=
  mr_i1 (c_Mo_rests s x w) (mo_c hM (m_rests ha.wf hM.1.1 x w)) (by omega)
theorem M_kind (s : Sh N t r) (ha : AOK A) (hM : MInv i A) (x : Int32) (hd : 300 ≤ d) : Rn d 344 [.ref 1638, .int x] (N, U, t, i, r) (MRs N U t i r (spKind A.1.1 x) A) :=
  mr_i1 (c_Mo_kind s x) (mo_c hM (m_kind ha.wf hM.1.1 x)) (by omega)
theorem M_meets (s : Sh N t r) (ha : AOK A) (hM : MInv i A) (x w : Int32) (hd : 300 ≤ d) : Rn d 299 [.ref 1638, .int x, .int w] (N, U, t, i, r) (MRs N U t i r (spMeets A.1.1 x w) A) :=
  mr_i1 (c_Mo_meets s x w) (mo_c hM (m_meets ha.wf hM.1.1 x w)) (by omega)
theorem M_fewest (s : Sh N t r) (ha : AOK A) (hM : MInv i A) (x : Int32) (hd : 300 ≤ d) : Rn d 316 [.ref 1638, .int x] (N, U, t, i, r) (MRs N U t i r (spFewest A.1.1 x) A) :=
  mr_i1 (c_Mo_fewest s x) (mo_c hM (m_fewest ha.wf hM.1.1 x)) (by omega)
theorem M_led (s : Sh N t r) (ha : AOK A) (hM : MInv i A) (x w : Int32) (hd : 300 ≤ d) : Rn d 353 [.ref 1638, .int x, .int w] (N, U, t, i, r) (MRs N U t i r (spLed A.1.1 x w) A) :=
  mr_i1 (c_Mo_led s x w) (mo_c hM (m_led ha.wf hM.1.1 x w)) (by omega)
theorem M_log (s : Sh N t r) (ha : AOK A) (hM : MInv i A) (x w : Int32) (hd : 300 ≤ d) : Rn d 354 [.ref 1638, .int x, .int w] (N, U, t, i, r) (MRs N U t i r (spLog A.1.1 x w) A) :=
  mr_i1 (c_Mo_log s x w) (mo_c hM (m_log ha.wf hM.1.1 x w)) (by omega)
theorem M_odds (s : Sh N t r) (ha : AOK A) (hM : MInv i A) (x : Int32) (hd : 300 ≤ d) : Rn d 341 [.ref 1638, .int x] (N, U, t, i, r) (MRs N U t i r (spOdds A.1.1 x) A) :=
  mr_i1 (c_Mo_odds s x) (mo_c hM (m_odds ha.wf hM.1.1 x)) (by omega)
theorem M_haul (s : Sh N t r) (ha : AOK A) (hM : MInv i A) (x w : Int32) (hd : 300 ≤ d) : Rn d 306 [.ref 1638, .int x, .int w] (N, U, t, i, r) (MRs N U t i r (spHaul A.1.1 x w) A) :=
  mr_i1 (c_Mo_haul s x w) (mo_c hM (m_haul ha.wf hM.1.1 x w)) (by omega)
theorem M_first (s : Sh N t r) (ha : AOK A) (hM : MInv i A) (x w : Int32) (hd : 300 ≤ d) : Rn d 307 [.ref 1638, .int x, .int w] (N, U, t, i, r) (MRs N U t i r (spFirst A.1.1 x w) A) :=
  mr_i1 (c_Mo_first s x w) (mo_c hM (m_first ha.wf hM.1.1 x w)) (by omega)
theorem M_whose (s : Sh N t r) (ha : AOK A) (hM : MInv i A) (x : Int32) (hd : 300 ≤ d) : Rn d 313 [.ref 1638, .int x] (N, U, t, i, r) (MRs N U t i r (spWhose A.1.1 x) A) :=
  mr_i1 (c_Mo_whose s x) (mo_c hM (m_whose ha.wf hM.1.1 x)) (by omega)
theorem M_parted (s : Sh N t r) (ha : AOK A) (hM : MInv i A) (x : Int32) (hd : 300 ≤ d) : Rn d 315 [.ref 1638, .int x] (N, U, t, i, r) (MRs N U t i r (spParted A.1.1 x) A) :=
  mr_i1 (c_Mo_parted s x) (mo_c hM (m_parted ha.wf hM.1.1 x)) (by omega)
theorem M_pairs (s : Sh N t r) (ha : AOK A) (hM : MInv i A) (x : Int32) (hd : 300 ≤ d) : Rn d 337 [.ref 1638, .int x] (N, U, t, i, r) (MRs N U t i r (spPairs A.1.1 x) A) :=
  mr_i1 (c_Mo_pairs s x) (mo_c hM (m_pairs ha.wf hM.1.1 x)) (by omega)
theorem M_boat (s : Sh N t r) (ha : AOK A) (hM : MInv i A) (x w : Int32) (hd : 300 ≤ d) : Rn d 281 [.ref 1638, .int x, .int w] (N, U, t, i, r) (MRs N U t i r (spBoat A.1.1 x w) A) :=
  mr_i1 (c_Mo_boat s x w) (mo_c hM (m_boatA ha.wf hM.1.1 x w)) (by omega)
theorem M_dead (s : Sh N t r) (ha : AOK A) (hM : MInv i A) (x w : Int32) (hd : 300 ≤ d) : Rn d 284 [.ref 1638, .int x, .int w] (N, U, t, i, r) (MRs N U t i r (spDead A.1.1 x w) A) :=
  mr_i1 (c_Mo_dead s x w) (mo_c hM (m_deadA ha.wf hM.1.1 x w)) (by omega)
theorem M_fish (s : Sh N t r) (ha : AOK A) (hM : MInv i A) (x w : Int32) (hd : 300 ≤ d) : Rn d 280 [.ref 1638, .int x, .int w] (N, U, t, i, r) (MRs N U t i r (spFish A.1.1 A.2.1 x w) A) :=
  mr_i1 (c_Mo_fish s x w) (mo_c hM (m_fish ha.wf hM.1.1 ha.2.1 hM.2.1 x w)) (by omega)
theorem M_where (s : Sh N t r) (ha : AOK A) (hM : MInv i A) (x w : Int32) (hd : 300 ≤ d) : Rn d 296 [.ref 1638, .int x, .int w] (N, U, t, i, r) (MRs N U t i r (spWhere A.1.1 A.2.1 x w) A) :=
  mr_i1 (c_Mo_where s x w) (mo_c hM (m_where ha.wf hM.1.1 ha.2.1 hM.2.1 x w)) (by omega)
theorem M_spoils (s : Sh N t r) (ha : AOK A) (hM : MInv i A) (x : Int32) (hd : 300 ≤ d) : Rn d 349 [.ref 1638, .int x] (N, U, t, i, r) (MRs N U t i r (spSpoils A.1.1 A.2.1 x) A) :=
  mr_i1 (c_Mo_spoils s x) (mo_c hM (m_spoils ha.wf hM.1.1 ha.2.1 hM.2.1 x)) (by omega)
theorem M_trial (s : Sh N t r) (ha : AOK A) (hM : MInv i A) (x w : Int32) (hd : 300 ≤ d) : Rn d 350 [.ref 1638, .int x, .int w] (N, U, t, i, r) (MRs N U t i r (spTrial A.1.1 A.2.1 x w) A) :=
  mr_i1 (c_Mo_trial s x w) (mo_c hM (m_trial ha.wf hM.1.1 ha.2.1 hM.2.1 x w)) (by omega)
theorem M_span (s : Sh N t r) (ha : AOK A) (hM : MInv i A) (x w : Int32) (hd : 300 ≤ d) : Rn d 351 [.ref 1638, .int x, .int w] (N, U, t, i, r) (MRs N U t i r (spSpan A.1.1 A.2.1 x w) A) :=
  mr_i1 (c_Mo_span s x w) (mo_c hM (m_span ha.wf hM.1.1 ha.2.1 hM.2.1 x w)) (by omega)
theorem M_sale (s : Sh N t r) (ha : AOK A) (hM : MInv i A) (x : Int32) (hd : 300 ≤ d) : Rn d 325 [.ref 1638, .int x] (N, U, t, i, r) (MRs N U t i r (spSale A.1.1 A.2.1 x) A) :=
  mr_i1 (c_Mo_sale s x) (mo_c hM (m_sale ha.wf hM.1.1 ha.2.1 hM.2.1 x)) (by omega)
theorem M_buyer (s : Sh N t r) (ha : AOK A) (hM : MInv i A) (x w : Int32) (hd : 300 ≤ d) : Rn d 283 [.ref 1638, .int x, .int w] (N, U, t, i, r) (MRs N U t i r (spBuyer A.1.1 A.2.1 x w) A) :=
  mr_i1 (c_Mo_buyer s x w) (mo_c hM (m_buyerA ha.wf hM.1.1 ha.2.1 hM.2.1 x w)) (by omega)
theorem M_chase (s : Sh N t r) (ha : AOK A) (hM : MInv i A) (x w : Int32) (hd : 300 ≤ d) : Rn d 333 [.ref 1638, .int x, .int w] (N, U, t, i, r) (MRs N U t i r (spChase x w) A) :=
  mr_i1 (c_Mo_chase s x w) (mo_c hM (m_chase  x w)) (by omega)
theorem M_lost (s : Sh N t r) (ha : AOK A) (hM : MInv i A) (hd : 300 ≤ d) : Rn d 300 [.ref 1638] (N, U, t, i, r) (MRs N U t i r (0, nI (lst A.1.1)) A) :=
  mr_i1 (c_Mo_lost s ) (mo_c hM (m_lost ha.wf hM.1.1 )) (by omega)
theorem M_twins (s : Sh N t r) (ha : AOK A) (hM : MInv i A) (hd : 300 ≤ d) : Rn d 345 [.ref 1638] (N, U, t, i, r) (MRs N U t i r (0, fo (twn1 A.1.1) (nf A.1.1) 0) A) :=
  mr_i1 (c_Mo_twins s ) (mo_c hM (m_twins ha.wf hM.1.1 )) (by omega)
theorem M_freshest (s : Sh N t r) (ha : AOK A) (hM : MInv i A) (hd : 300 ≤ d) : Rn d 342 [.ref 1638] (N, U, t, i, r) (MRs N U t i r (0, frs A.1.1 (fun f => decide (A.1.1 2 f 3 = 2))) A) :=
  mr_i1 (c_Mo_freshest s ) (mo_c hM (m_freshestA ha.wf hM.1.1 )) (by omega)
theorem M_eddy (s : Sh N t r) (ha : AOK A) (hM : MInv i A) (hd : 300 ≤ d) : Rn d 309 [.ref 1638] (N, U, t, i, r) (MRs N U t i r (0, spEddy A.1.1) A) :=
  mr_i1 (c_Mo_eddy s ) (mo_c hM (m_eddy ha.wf hM.1.1 )) (by omega)
theorem M_without (s : Sh N t r) (ha : AOK A) (hM : MInv i A) (hd : 300 ≤ d) : Rn d 326 [.ref 1638] (N, U, t, i, r) (MRs N U t i r (0, nI (wto A.1.1 A.2.1)) A) :=
  mr_i1 (c_Mo_without s ) (mo_c hM (m_without ha.wf hM.1.1 ha.2.1 hM.2.1 )) (by omega)
theorem M_dearest (s : Sh N t r) (ha : AOK A) (hM : MInv i A) (hd : 300 ≤ d) : Rn d 343 [.ref 1638] (N, U, t, i, r) (MRs N U t i r (0, fo (dsg A.1.1 A.2.1) (nf A.1.1) (-1)) A) :=
  mr_i1 (c_Mo_dearest s ) (mo_c hM (m_dearest ha.wf hM.1.1 ha.2.1 hM.2.1 )) (by omega)
theorem M_order (s : Sh N t r) (ha : AOK A) (hM : MInv i A) (x : Int32) (hd : 300 ≤ d) : Rn d 329 [.ref 1638, .int x] (N, U, t, i, r) (MRs N U t i r (0, spOrder A.1.1 A.2.1 x) A) :=
  mr_i1 (c_Mo_order s x) (mo_c hM (m_order ha.wf hM.1.1 ha.2.1 hM.2.1 x)) (by omega)
theorem M_slab (s : Sh N t r) (ha : AOK A) (hM : MInv i A) (hd : 300 ≤ d) : Rn d 346 [.ref 1638] (N, U, t, i, r) (MRs N U t i r (0, nI (plc A.1.1 2)) A) :=
  mr_i1 (c_Mo_slab s) (mo_c hM (m_sets ha.wf hM.1.1).1) (by omega)
theorem M_sea (s : Sh N t r) (ha : AOK A) (hM : MInv i A) (hd : 300 ≤ d) : Rn d 347 [.ref 1638] (N, U, t, i, r) (MRs N U t i r (0, nI (plc A.1.1 0)) A) :=
  mr_i1 (c_Mo_sea s) (mo_c hM (m_sets ha.wf hM.1.1).2.1) (by omega)
theorem M_gone (s : Sh N t r) (ha : AOK A) (hM : MInv i A) (hd : 300 ≤ d) : Rn d 348 [.ref 1638] (N, U, t, i, r) (MRs N U t i r (0, nI (plc A.1.1 3)) A) :=
  mr_i1 (c_Mo_gone s) (mo_c hM (m_sets ha.wf hM.1.1).2.2) (by omega)
theorem M_fault (s : Sh N t r) (ha : AOK A) (hM : MInv i A) (hd : 300 ≤ d) : Rn d 233 [.ref 1638] (N, U, t, i, r) (MRs N U t i r (0, A.2.2.2.2.1) A) :=
  by
  have h := m_fault (i := i)
  rw [hM.2.2.2.1] at h
  exact mr_i1 (c_Mo_fault s) (mo_c hM h) (by omega)
theorem M_count (s : Sh N t r) (ha : AOK A) (hM : MInv i A) (x : Int32) (hd : 300 ≤ d) : Rn d 356 [.ref 1638, .int x] (N, U, t, i, r) (MRs N U t i r (0, spCount A.1.1 A.2.1 (nI A.1.2.1) x) A) :=
  mr_i1 (c_Mo_count s x) (mo_c hM (m_count ha.wf hM.1.1 hM.2.1 hM.1.2.1 x)) (by omega)
theorem M_days (s : Sh N t r) (ha : AOK A) (hM : MInv i A) (x : Int32) (hd : 300 ≤ d) : Rn d 285 [.ref 1638, .int x] (N, U, t, i, r) (MRs N U t i r (spDays A.1 A.2.1 x).1 ((spDays A.1 A.2.1 x).2, A.2)) :=
  mr_i1 (c_Mo_days s x) (ma_c hM (m_days ha.1 hM.1 ha.2.1 hM.2.1 x)) (by omega)
theorem M_heads (s : Sh N t r) (ha : AOK A) (hM : MInv i A) (x w : Int32) (hd : 300 ≤ d) : Rn d 287 [.ref 1638, .int x, .int w] (N, U, t, i, r) (MRs N U t i r (spHeads A.1 x w).1 ((spHeads A.1 x w).2, A.2)) :=
  mr_i1 (c_Mo_heads s x w) (ma_c hM (m_heads ha.1 hM.1 x w)) (by omega)
theorem M_ice (s : Sh N t r) (ha : AOK A) (hM : MInv i A) (x : Int32) (hd : 300 ≤ d) : Rn d 288 [.ref 1638, .int x] (N, U, t, i, r) (MRs N U t i r (spIce A.1 x).1 ((spIce A.1 x).2, A.2)) :=
  mr_i1 (c_Mo_ice s x) (ma_c hM (m_ice ha.1 hM.1 x)) (by omega)
theorem M_sponge (s : Sh N t r) (ha : AOK A) (hM : MInv i A) (x w : Int32) (hd : 300 ≤ d) : Rn d 289 [.ref 1638, .int x, .int w] (N, U, t, i, r) (MRs N U t i r (spSponge A.1 x w).1 ((spSponge A.1 x w).2, A.2)) :=
  mr_i1 (c_Mo_sponge s x w) (ma_c hM (m_sponge ha.1 hM.1 x w)) (by omega)
theorem M_pay (s : Sh N t r) (ha : AOK A) (hM : MInv i A) (x w : Int32) (hd : 300 ≤ d) : Rn d 290 [.ref 1638, .int x, .int w] (N, U, t, i, r) (MRs N U t i r (spPay A.1 x w).1 ((spPay A.1 x w).2, A.2)) :=
  mr_i1 (c_Mo_pay s x w) (ma_c hM (m_pay ha.1 hM.1 x w)) (by omega)
theorem M_tell (s : Sh N t r) (ha : AOK A) (hM : MInv i A) (x w z : Int32) (hd : 300 ≤ d) : Rn d 291 [.ref 1638, .int x, .int w, .int z] (N, U, t, i, r) (MRs N U t i r (spTell A.1 x w z).1 ((spTell A.1 x w z).2, A.2)) :=
  mr_i1 (c_Mo_tell s x w z) (ma_c hM (m_tell ha.1 hM.1 x w z)) (by omega)
theorem M_release (s : Sh N t r) (ha : AOK A) (hM : MInv i A) (x : Int32) (hd : 300 ≤ d) : Rn d 292 [.ref 1638, .int x] (N, U, t, i, r) (MRs N U t i r (spRelease A.1 x).1 ((spRelease A.1 x).2, A.2)) :=
  mr_i1 (c_Mo_release s x) (ma_c hM (m_release ha.1 hM.1 x)) (by omega)
theorem M_current (s : Sh N t r) (ha : AOK A) (hM : MInv i A) (x w : Int32) (hd : 300 ≤ d) : Rn d 293 [.ref 1638, .int x, .int w] (N, U, t, i, r) (MRs N U t i r (spCurrent A.1 x w).1 ((spCurrent A.1 x w).2, A.2)) :=
  mr_i1 (c_Mo_current s x w) (ma_c hM (m_current ha.1 hM.1 x w)) (by omega)
theorem M_sell (s : Sh N t r) (ha : AOK A) (hM : MInv i A) (x w : Int32) (hd : 300 ≤ d) : Rn d 294 [.ref 1638, .int x, .int w] (N, U, t, i, r) (MRs N U t i r (spSell A.1 A.2.1 x w).1 ((spSell A.1 A.2.1 x w).2, A.2)) :=
  mr_i1 (c_Mo_sell s x w) (ma_c hM (m_sell ha.1 hM.1 ha.2.1 hM.2.1 x w)) (by omega)
theorem undo_0 {W : PW} : (spUndo W).1.1 = 0 := by
  unfold spUndo
  split <;> rfl
theorem M_undo (s : Sh N t r) (ha : AOK A) (hM : MInv i A) (hd : 300 ≤ d) : Rn d 199 [.ref 1638] (N, U, t, i, r) (MRs N U t i r (0, (spUndo A.1).1.2) ((spUndo A.1).2, A.2)) :=
  by
  have h := ma_c hM (m_undo ha.1 hM.1)
  rw [undo_0] at h
  exact mr_i1 (p := (0, (spUndo A.1).1.2)) (c_Mo_undo s) h (by omega)
theorem M_feed (s : Sh N t r) (ha : AOK A) (hM : MInv i A) (x1 x2 x3 x4 x5 : Int32) (hd : 300 ≤ d) : Rn d 222 [.ref 1638, .int x1, .int x2, .int x3, .int x4, .int x5] (N, U, t, i, r) (MRs N U t i r (0, (spFeed A.2.2.1 A.2.2.2.1 x1 x2 x3 x4 x5).1) (A.1, A.2.1, (spFeed A.2.2.1 A.2.2.2.1 x1 x2 x3 x4 x5).2.1, (spFeed A.2.2.1 A.2.2.2.1 x1 x2 x3 x4 x5).2.2, A.2.2.2.2)) :=
  mr_i1 (c_Mo_feed s x1 x2 x3 x4 x5) (mt_c hM (m_feed hM.2.2.1 ha.2.2.1 x1 x2 x3 x4 x5)) (by omega)
theorem M_end (s : Sh N t r) (ha : AOK A) (hM : MInv i A) (x : Int32) (hd : 300 ≤ d) : Rn d 223 [.ref 1638, .int x] (N, U, t, i, r) (MRs N U t i r (0, (spEnd A.2.2.1 x).1) (A.1, A.2.1, (spEnd A.2.2.1 x).2, A.2.2.2.1, A.2.2.2.2)) :=
  mr_i1 (c_Mo_end s x) (mt_c hM (m_end hM.2.2.1 ha.2.2.1 x)) (by omega)
theorem M_turned (s : Sh N t r) (ha : AOK A) (hM : MInv i A) (x : Int32) (hd : 300 ≤ d) : Rn d 320 [.ref 1638, .int x] (N, U, t, i, r) (MRs N U t i r (spTurned A.2.2.1 A.2.2.2.1 x) (A.1, A.2.1, 0, A.2.2.2.1, A.2.2.2.2)) :=
  mr_i1 (c_Mo_turned s x) (mu_c hM (m_turned hM.2.2.1 ha.2.2.1 x)) (by omega)
theorem M_ask (s : Sh N t r) (ha : AOK A) (hM : MInv i A) (hd : 300 ≤ d) : Rn d 322 [.ref 1638] (N, U, t, i, r) (MRs N U t i r (spAsk A.2.2.1 A.2.2.2.1) (A.1, A.2.1, 0, A.2.2.2.1, A.2.2.2.2)) :=
  mr_i1 (c_Mo_ask s) (mu_c hM (m_ask hM.2.2.1 ha.2.2.1)) (by omega)
theorem M_seed (s : Sh N t r) (ha : AOK A) (hM : MInv i A) (x : Int32) (hd : 300 ≤ d) : Rn d 355 [.ref 1638, .int x] (N, U, t, i, r) (MRs N U t i r (0, A.1.1 0 0 10) ((su A.1.1 0 0 10 x, A.1.2), A.2)) :=
  by
  obtain ⟨e1, e2⟩ := m_seed hM.1.1 x
  obtain ⟨W, L, n, T, f, K⟩ := A
  have w : ∀ b j, ¬ (b = 1639 ∧ j = 10) → ¬ (b = 1638 ∧ j = 0) → wr (wr i 1638 0 0) 1639 10 x b j = i b j := fun b j h1 h2 => (if_neg h1).trans (if_neg h2)
  refine mr_i1 (c_Mo_seed s x) ⟨_, e1, ?_, fun _ => rfl, MInv.gen hM ⟨e2, mp_e hM.1.2 (w 1638 7 (by omega) (by omega)) (funext fun j => w 1643 j (by omega) (by omega)) (w 1639 5 (by omega) (by omega))⟩ ⟨(w 1638 9 (by omega) (by omega)).trans hM.2.2.1.1, fun k hk => (w 1644 k (by omega) (by omega)).trans (hM.2.2.1.2 k hk)⟩ ((w 1638 14 (by omega) (by omega)).trans hM.2.2.2.1) (fun j hj => w 1639 j (by omega) (by omega)) (w 1638 6 (by omega) (by omega)) (fun j => w 1640 j (by omega) (by omega)), fun b j hb => w b j (by omega) (by omega)⟩ (by omega)
  show wr (wr i 1638 0 0) 1639 10 x 1638 0 = 0
  rw [wr_a (by decide), wr_s]
theorem M_waters (s : Sh N t r) (hS : SV t i) (ha : AOK A) (hM : MInv i A) (hd : 300 ≤ d) : Rn d 256 [.ref 1638] (N, U, t, i, r) (MRs N U t i r (spWaters A.2.2.1 A.2.2.2.1 A.1).1 ((spWaters A.2.2.1 A.2.2.2.1 A.1).2.2, A.2.1, 0, A.2.2.2.1, (spWaters A.2.2.1 A.2.2.2.1 A.1).2.1, A.2.2.2.2.2)) :=
  by
  obtain ⟨W, L, n, T, f, K⟩ := A
  refine mr_i1 (c_Mo_waters s) (tt_mono (m_waters hS ha.2.2.1 hM.2.2.1 ha.1 hM.1) (fun y hy => ?_)) (by omega)
  obtain ⟨a1, a2, a3, a4, a5, a6, a7, a8⟩ := hy
  exact ⟨a1, a2, MInv.gen hM a3 ⟨a5, fun k hk => absurd hk (Nat.not_lt_zero k)⟩ a4 a8 (a7 _ (by omega)) (fun j => a6 _ _ (by omega)), fun b j hb => a6 b j (by omega)⟩
theorem M_law (s : Sh N t r) (hS : SV t i) (ha : AOK A) (hM : MInv i A) (hd : 300 ≤ d) : Rn d 257 [.ref 1638] (N, U, t, i, r) (MRs N U t i r (spLaw A.2.2.1 A.2.2.2.1 A).1 (spLaw A.2.2.1 A.2.2.2.1 A).2) :=
  by
  obtain ⟨W, L, n, T, f, K⟩ := A
  refine mr_i1 (c_Mo_law s) (tt_mono (m_law hS ha.2.2.1 hM.2.2.1) (fun y hy => ?_)) (by omega)
  obtain ⟨a1, a2, a3⟩ := hy
  have hfr : frM i y.2 := fun b j hb => a2 b j (by omega) (by omega)
  have hMV : MV y.2 W.1 := hM.1.1.cong4L (fun k hk h5 => a2 _ _ (by omega) (by omega))
  show y.2 1638 0 = (spLaw n T (W, L, n, T, f, K)).1.1 ∧ ((spLaw n T (W, L, n, T, f, K)).1.1 = 0 → y.1 = (spLaw n T (W, L, n, T, f, K)).1.2) ∧ MInv y.2 (spLaw n T (W, L, n, T, f, K)).2 ∧ frM i y.2
  unfold spLaw
  cases hr : rLawA n T with
  | inl e =>
    rw [hr] at a3
    obtain ⟨b1, b2, b3, b4⟩ := a3
    refine ⟨b1, fun q => absurd q (by show ¬ (1 : Int32) = 0; decide), ?_, hfr⟩
    refine ⟨⟨hMV, mp_e hM.1.2 b3 (funext fun j => a2 1643 j (by omega) (by omega)) (b4 _ (by omega))⟩, ML.cong12 ha.2.1 hM.2.1 (fun k hk => b4 k (by omega)), ⟨a1, fun k hk => absurd hk (Nat.not_lt_zero k)⟩, b2, ?_⟩
    have e40 : y.2 1640 = i 1640 := funext fun j => a2 _ _ (by omega) (by omega)
    have e6 : y.2 1638 6 = i 1638 6 := a2 _ _ (by omega) (by omega)
    have h7 := hM.2.2.2.2
    unfold KpM at h7 ⊢
    dsimp only at h7 ⊢
    rw [e6, e40]
    exact h7
  | inr p =>
    rw [hr] at a3
    obtain ⟨b1, b2, b3, b4, b5, b6⟩ := a3
    refine ⟨b1, fun _ => b2, ⟨⟨hMV, b4, fun k hk => absurd hk (Nat.not_lt_zero k)⟩, b5, ⟨a1, fun k hk => absurd hk (Nat.not_lt_zero k)⟩, b3, ?_⟩, hfr⟩
    have e40 : y.2 1640 = i 1640 := funext fun j => a2 _ _ (by omega) (by omega)
    have e6 : y.2 1638 6 = i 1638 6 := a2 _ _ (by omega) (by omega)
    have h7 := hM.2.2.2.2
    unfold KpM at h7 ⊢
    dsimp only at h7 ⊢
    rw [e6, e40]
    exact h7
theorem M_image (s : Sh N t r) (ha : AOK A) (hM : MInv i A) (hd : 300 ≤ d) : Rn d 196 [.ref 1638] (N, U, t, i, r) (fun q => ∃ i', q = (.inl none, (N, U, t, i', r)) ∧ MInv i' (spImage A) ∧ frM i i') := by
  obtain ⟨W, L, n, T, f, K⟩ := A
  obtain ⟨i1, ho, a1, a2, a3, a4, a5⟩ := m_image (i := i)
  refine (c_Mo_image (u := U) s d (by omega) _ ho).2.mono (fun q hq => ⟨i1, hq, ?_, fun b j hb => a4 b j (by omega) (by omega)⟩)
  refine ⟨⟨hM.1.1.congr (fun k => a4 1639 k (by omega) (by omega)), mp_e hM.1.2 (a5 _ (by decide) (by decide)) (funext fun j => a4 1643 j (by omega) (by omega)) (a4 _ _ (by omega) (by omega))⟩, hM.2.1.congrL (fun j _ => a4 _ _ (by omega) (by omega)), ⟨(a5 _ (by decide) (by decide)).trans hM.2.2.1.1, fun k hk => (a4 _ _ (by omega) (by omega)).trans (hM.2.2.1.2 k hk)⟩, (a5 _ (by decide) (by decide)).trans hM.2.2.2.1, ?_⟩
  show i1 1638 6 = 1 ∧ MV (fun _ j => i1 1640 j) W.1 ∧ ML (fun _ j => i1 1640 j) L
  exact ⟨a2, hM.1.1.cong4 (fun k hk => a3 k (by omega)), ML.cong12 ha.2.1 hM.2.1 (fun k hk => a3 k hk)⟩
theorem M_back (s : Sh N t r) (ha : AOK A) (hM : MInv i A) (hd : 300 ≤ d) : Rn d 197 [.ref 1638] (N, U, t, i, r) (MRs N U t i r (0, (spBack A).1) (spBack A).2) := by
  obtain ⟨W, L, n, T, f, K⟩ := A
  cases K with
  | none =>
    have w : ∀ b j, ¬ (b = 1638 ∧ j = 0) → wr i 1638 0 0 b j = i b j := fun b j hb => if_neg hb
    exact (c_Mo_back (u := U) s d (by omega) _ (m_back0 hM.2.2.2.2)).2.mono (fun q hq => ⟨0, wr i 1638 0 0, hq, (show wr i 1638 0 0 1638 0 = 0 from wr_s), fun _ => rfl, mi_e hM (fun b j hb => w b j (by omega)) (w 1638 7 (by omega)) (w 1638 9 (by omega)) (w 1638 14 (by omega)) (w 1638 6 (by omega)), fun b j hb => w b j (by omega)⟩)
  | some p =>
    obtain ⟨k1, k2, k3⟩ := hM.2.2.2.2
    obtain ⟨q1, q2⟩ := ha.2.2.2 p rfl
    obtain ⟨⟨v, i1⟩, ho, ⟨a1, a0⟩, a2, a3, a4, a5, a6⟩ := m_back q2 k1 k2 k3 W.2.2
    dsimp only at a0 a1 a2 a3 a4 a5 a6
    refine (c_Mo_back (u := U) s d (by omega) _ ho).2.mono (fun q hq => ⟨v, i1, hq, a1, fun _ => a0, ⟨⟨a2, a4⟩, a3, ⟨(a6 _ (by decide) (by decide)).trans hM.2.2.1.1, fun k hk => (a5 _ _ (by omega) (by omega)).trans (hM.2.2.1.2 k hk)⟩, (a6 _ (by decide) (by decide)).trans hM.2.2.2.1, ?_⟩, fun b j hb => a5 b j (by omega) (by omega)⟩)
    have e40 : i1 1640 = i 1640 := funext fun j => a5 _ _ (by omega) (by omega)
    have e6 : i1 1638 6 = i 1638 6 := a6 _ (by decide) (by decide)
    show i1 1638 6 = 1 ∧ MV (fun _ j => i1 1640 j) p.1 ∧ ML (fun _ j => i1 1640 j) p.2
    rw [e6, e40]
    exact ⟨k1, k2, k3⟩
end CALLM
