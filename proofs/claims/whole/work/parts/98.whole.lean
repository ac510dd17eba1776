/-! ===== the law's walk from its entry, and the claim ===== -/
def rhoE (n b : Nat) (ad : Nat → Nat × Nat × Cell) (a : Nat) : Nat := if 1000 ≤ a then n + (a - 1000) else if 2 ≤ a ∧ a < 190 then (if a % 2 = 0 then (ad ((a - 2) / 2)).1 else (ad ((a - 3) / 2)).2.1) else b
def tE (L : Nat) (ad : Nat → Nat × Nat × Cell) : MT := fun a => if a = 1 then (100, L) else if 2 ≤ a ∧ a < 190 then (if a % 2 = 0 then (13, 2) else (101, (ad ((a - 3) / 2)).2.2.slots.size)) else (999, 0)
def iE (xs : Nat → Int32) (ad : Nat → Nat × Nat × Cell) : MI := fun a j => if a = 1 then xs j else if 2 ≤ a ∧ a < 190 ∧ a % 2 = 1 then cInt (ad ((a - 3) / 2)).2.2 j else 0
def rE : MR := fun a j => if 2 ≤ a ∧ a < 190 ∧ a % 2 = 0 ∧ j = 0 then a + 1 else 0
section ENTRY
variable {n b L k : Nat} {ad : Nat → Nat × Nat × Cell} {xs : Nat → Int32}
theorem rhoE_n {a : Nat} (h : 1000 ≤ a) : rhoE n b ad a = n + (a - 1000) := if_pos h
theorem rhoE_0 (hk : k < 94) : rhoE n b ad (2 * k + 2) = (ad k).1 := by
  unfold rhoE
  rw [if_neg (by omega), if_pos (by omega), if_pos (by omega), show (2 * k + 2 - 2) / 2 = k by omega]
theorem rhoE_1 (hk : k < 94) : rhoE n b ad (2 * k + 3) = (ad k).2.1 := by
  unfold rhoE
  rw [if_neg (by omega), if_pos (by omega), if_neg (by omega), show (2 * k + 3 - 3) / 2 = k by omega]
theorem rhoE_b {a : Nat} (h : a < 1000) (h2 : ¬ (2 ≤ a ∧ a < 190)) : rhoE n b ad a = b := by
  unfold rhoE
  rw [if_neg (by omega), if_neg h2]
theorem tE_0 (hk : k < 94) : tE L ad (2 * k + 2) = (13, 2) := by
  unfold tE
  rw [if_neg (by omega), if_pos (by omega), if_pos (by omega)]
theorem tE_1 (hk : k < 94) : tE L ad (2 * k + 3) = (101, (ad k).2.2.slots.size) := by
  unfold tE
  rw [if_neg (by omega), if_pos (by omega), if_neg (by omega), show (2 * k + 3 - 3) / 2 = k by omega]
theorem tE_b {a : Nat} (h : ¬ a = 1) (h2 : ¬ (2 ≤ a ∧ a < 190)) : tE L ad a = (999, 0) := by
  unfold tE
  rw [if_neg h, if_neg h2]
theorem iE_0 (hk : k < 94) (j : Nat) : iE xs ad (2 * k + 2) j = 0 := by
  unfold iE
  rw [if_neg (by omega), if_neg (by omega)]
theorem iE_1 (hk : k < 94) (j : Nat) : iE xs ad (2 * k + 3) j = cInt (ad k).2.2 j := by
  unfold iE
  rw [if_neg (by omega), if_pos (by omega), show (2 * k + 3 - 3) / 2 = k by omega]
theorem rE_0 (hk : k < 94) : rE (2 * k + 2) 0 = 2 * k + 3 := by
  unfold rE
  rw [if_pos (by omega)]
/-- the first abstract heap is the entry's heap -/
theorem rel_E {s : State} {D : va_G} {z : Value} (hX : va_X b L xs s s.heap) (hstr : ∀ k, k < 94 → ∃ tm args cs, StrAt s tm args cs (ad k)) : RelH s D (rhoE s.heap.size b ad) z (1000, 0, tE L ad, iE xs ad, rE) s.heap := by
  refine ⟨rfl, Nat.le_refl 1000, fun q _ => rfl, ?_, fun a ha => ?_, fun a ha => ?_⟩
  · show (tE L ad 999).1 = 999
    rw [tE_b (a := 999) (by decide) (by omega)]
  · have ha : 1000 ≤ a := ha
    show (tE L ad a).1 = 999
    rw [tE_b (a := a) (by omega) (by omega)]
  have ha : a < 1000 := ha
  by_cases c1 : a = 1
  · subst c1
    have eT : aT (1000, 0, tE L ad, iE xs ad, rE) 1 = 100 := rfl
    have eL : aL (1000, 0, tE L ad, iE xs ad, rE) 1 = L := rfl
    refine ⟨fun h => absurd h (by rw [eT]; decide), fun h => absurd h (by rw [eT]; decide), fun _ h => absurd h (by rw [eT]; decide), fun _ _ => ?_⟩
    obtain ⟨scr, g1, g2, g3, g4, g5⟩ := hX
    rw [eT, eL]
    refine ⟨scr, ?_, g2, g3, g4, fun j hj => ?_, fun h => absurd h (by decide)⟩
    · rw [rhoE_b (a := 1) (by decide) (by decide)]; exact g1
    · rw [g5 j hj]; rfl
  · by_cases c2 : 2 ≤ a ∧ a < 190
    · by_cases c3 : a % 2 = 0
      · obtain ⟨k, hk, rfl⟩ : ∃ k, k < 94 ∧ a = 2 * k + 2 := ⟨(a - 2) / 2, by omega, by omega⟩
        obtain ⟨tm, args, cs, -, -, -, q1, q2, q3, -⟩ := hstr k hk
        have eT : aT (1000, 0, tE L ad, iE xs ad, rE) (2 * k + 2) = 13 := by show (tE L ad (2 * k + 2)).1 = 13; rw [tE_0 hk]
        refine ⟨fun h => absurd h (by rw [eT]; decide), fun _ => ?_, fun h => absurd h (by rw [eT]; decide), fun h => absurd h (by rw [eT]; decide)⟩
        have e0 : fV (1000, 0, tE L ad, iE xs ad, rE) (2 * k + 2) 13 0 = .ref (2 * k + 3) := by
          show rV (rE (2 * k + 2) 0) = _
          rw [rE_0 hk]
          exact if_neg (by omega)
        have e1 : fV (1000, 0, tE L ad, iE xs ad, rE) (2 * k + 2) 13 1 = .int 0 := by
          show Value.int (iE xs ad (2 * k + 2) 1) = _
          rw [iE_0 hk]
        rw [e0, e1, rhoE_0 hk]
        have e2 : cvV (rhoE s.heap.size b ad) z (.ref (2 * k + 3)) = .ref (ad k).2.1 := by
          show (if 2 * k + 3 = 999 then z else Value.ref (rhoE s.heap.size b ad (2 * k + 3))) = _
          rw [if_neg (by omega), rhoE_1 hk]
        rw [e2]
        exact ⟨q1, q2, q3⟩
      · obtain ⟨k, hk, rfl⟩ : ∃ k, k < 94 ∧ a = 2 * k + 3 := ⟨(a - 3) / 2, by omega, by omega⟩
        obtain ⟨tm, args, cs, -, -, -, -, -, -, q1, q2, q3, q4, q5, -⟩ := hstr k hk
        have eT : aT (1000, 0, tE L ad, iE xs ad, rE) (2 * k + 3) = 101 := by show (tE L ad (2 * k + 3)).1 = 101; rw [tE_1 hk]
        have eL : aL (1000, 0, tE L ad, iE xs ad, rE) (2 * k + 3) = (ad k).2.2.slots.size := by show (tE L ad (2 * k + 3)).2 = _; rw [tE_1 hk]
        refine ⟨fun h => absurd h (by rw [eT]; decide), fun h => absurd h (by rw [eT]; decide), fun _ h => absurd h (by rw [eT]; decide), fun _ _ => ?_⟩
        rw [eL]
        refine ⟨(ad k).2.2, ?_, ?_, q3, rfl, fun j hj => ?_, fun h => absurd h (by omega)⟩
        · rw [rhoE_1 hk]; exact q1
        · rw [eT]; exact q2
        · rw [q5 j hj]
          have eV : aV (1000, 0, tE L ad, iE xs ad, rE) (2 * k + 3) j = .int (cInt (ad k).2.2 j) := by
            unfold aV
            rw [eT, if_pos (by decide)]
            show Value.int (iE xs ad (2 * k + 3) j) = _
            rw [iE_1 hk]
          rw [eV]; rfl
    · have eT : aT (1000, 0, tE L ad, iE xs ad, rE) a = 999 := by show (tE L ad a).1 = 999; rw [tE_b c1 c2]
      exact ⟨fun h => absurd h (by rw [eT]; decide), fun h => absurd h (by rw [eT]; decide), fun _ h => absurd h (by rw [eT]; decide), fun _ h => absurd h (by rw [eT]; decide)⟩
end ENTRY
theorem pcs0 : ((mW 407).map fun r => r.1)[0]?.getD 0 = 0 := by decide +kernel
/-- the law's body, run by the abstract machine from its first heap -/
theorem law_abs {L : Nat} (hL : L ≤ 3072) {t : MT} {i : MI} {r : MR} (ht : t 1 = (100, L)) (hs : STR t r) (hS : SV t i) : ∃ hF kk, lp Pg (cD Pg 401 kk) (pgM 407) kk (0, .ref 1 :: List.replicate 6 uV, [], (1000, 0, t, i, r)) = some (.inl (some (.int 1)), hF) ∧ aN hF ≤ 5250 ∧ aU hF ≤ 340278 := by
  have h := law_start (d := 400) (U := 0) (Q := fun q => ∃ hF, q = (.inl (some (.int 1)), hF) ∧ aN hF ≤ 5250 ∧ aU hF ≤ 340278) hL (by decide) ht hs hS (fun t' i' r' hI hM ht' => law_loop hL (by decide) (NB := 5250) (UB := 340278) (fun hF h1 h2 => ⟨hF, rfl, h1, h2⟩) 513 0 (by omega) (by omega) 1659 (0 + 32478) t' i' r' A00 uV uV hI hM ht' (by omega) (by omega))
  obtain ⟨r9, ⟨hF, rfl, h1, h2⟩, kk, hk⟩ := h
  refine ⟨hF, kk, ?_, h1, h2⟩
  rw [law_pg]
  exact hk kk (Nat.le_refl _) kk (Nat.le_refl _)
set_option maxHeartbeats 4000000 in
theorem whole_start {p : Program} {e : Env} {s : State} {m : MethodId} {below : List Frame} {meth : Method} {c : Code} (l : Launch) (hflags : l.flags = flags0) {b L : Nat} {xs : Nat → Int32} (hL : L ≤ 3072) (hF : heapFits s = true) (C0 : lw_At p s m meth c b L xs) : W p l e room_1 s m #[Value.ref b] below meth c s.heap [] 0 0 (lw_Z below #[Value.ref b] s) (entryFrame m ([Value.ref b] : List Value).toArray 7) := by
  obtain ⟨hx, hb, hr, hml, hown, hts, hX, hbl, hlocks, hgv⟩ := C0
  have hs := flat_of_before _ hgv
  have hA : ∀ a : Nat, a < s.heap.size → ¬ (fun q : Nat => s.heap.size ≤ q) a := fun a h => Nat.not_le.mpr h
  have hlen : ∀ k, k < 94 → ((STC[k]?).getD []).length < 60 := fun k hk => by
    have h := (wln_lt k hk).2.1
    unfold wln wch at h
    rwa [show (2 * k + 2 - 2) / 2 = k by omega] at h
  have hstr : ∀ k, ∃ x, k < 94 → ∀ q, SRl[k]? = some q → StrAt s (.string q.1 q.2.1) #[Value.ref b] ((STC[k]?).getD []) x := by
    intro k
    by_cases hk : k < 94
    · have h1 : k < SRl.length := by rw [strs_len.1]; exact hk
      have h2 : k < STC.length := by rw [strs_len.2]; exact hk
      have e1 : SRl[k]? = some SRl[k] := List.getElem?_eq_getElem h1
      have e2 : STC[k]? = some STC[k] := List.getElem?_eq_getElem h2
      have hz : (SRl[k], STC[k]) ∈ SRl.zip STC := List.mem_of_getElem? (List.getElem?_zip_eq_some.mpr ⟨e1, e2⟩)
      obtain ⟨x, hx⟩ := str_at (args := #[Value.ref b]) hF (q := (SRl[k], STC[k])) (fun w hw => hs w (subl_mem _ _ strs_ok w (List.mem_flatten.mpr ⟨_, List.mem_map.mpr ⟨_, hz, rfl⟩, hw⟩))) (by
        have := hlen k hk
        rw [e2] at this
        show STC[k].length < 2 ^ 31
        have h60 : STC[k].length < 60 := this
        omega)
      refine ⟨x, fun _ q hq => ?_⟩
      cases e1.symm.trans hq
      rw [e2]
      exact hx
    · exact ⟨(0, 0, ({ cls := 0, slots := #[] } : Cell)), fun h => absurd h hk⟩
  obtain ⟨ad, had⟩ := Classical.axiomOfChoice hstr
  have had2 : ∀ k, k < 94 → ∃ q, SRl[k]? = some q ∧ StrAt s (.string q.1 q.2.1) #[Value.ref b] ((STC[k]?).getD []) (ad k) := fun k hk => by
    have h1 : k < SRl.length := by rw [strs_len.1]; exact hk
    exact ⟨_, List.getElem?_eq_getElem h1, had k hk _ (List.getElem?_eq_getElem h1)⟩
  have hcl : ∀ c, ∃ x : ClassId × (Nat → Nat), c < 13 → u_Kn s (CNn c) (TF c) (nF c) x.1 x.2 := by
    intro c
    by_cases hc : c < 13
    · have hi := List.all_eq_true.mp inst_ok c (List.mem_range.mpr hc)
      obtain ⟨cC, iS, h⟩ := u_known hts (u_words hc) (hts _ (List.contains_iff_mem.mp hi))
      exact ⟨(cC, iS), fun _ => h⟩
    · exact ⟨(m.cls, fun _ => 0), fun h => absurd h hc⟩
  obtain ⟨dd, hdd⟩ := Classical.axiomOfChoice hcl
  have w1 := ent_ok
  simp only [Bool.and_eq_true] at w1
  obtain ⟨⟨⟨⟨⟨⟨w1, w2⟩, w3⟩, w4⟩, w5⟩, w6⟩, w7⟩ := w1
  have w8 := subl_mem _ _ ent_ok2
  obtain ⟨z, hz1, hz2⟩ : ∃ z, (z = Value.null ∨ ∃ q, z = .ref q) ∧ va_Z "jdk/internal/util/Preconditions" "SIOOBE_FORMATTER" "Ljava/util/function/BiFunction;" z (fun q => s.heap.size ≤ q) s s.heap := by
    have h := va_Zqof (A := fun q => s.heap.size ≤ q) (hts _ (subl1 w2)) (hts _ (subl1 w6)) (hs _ (w8 _ (List.mem_of_getElem? (i := 3) rfl))) hA
    rcases h with h | ⟨t, h⟩
    · exact ⟨.null, Or.inl rfl, h⟩
    · exact ⟨.ref t, Or.inr ⟨t, rfl⟩, h⟩
  have G : Gho l s (fun c => (dd c).1, fun c => (dd c).2) (rhoE s.heap.size b ad) z := by
    refine ⟨⟨by omega, fun a ha => rhoE_n ha, fun a ha => ?_⟩, hz1, ?_, fun w hw => word_args hw (hts w hw), fun c hc => hdd c hc, fun k q hq => ?_, va_Zof (hts _ (subl1 w1)) (hts _ (subl1 w5)) (va_eqi (hs _ (w8 _ (List.mem_of_getElem? (i := 2) rfl)))) hA, hz2, vx_Zqof (hts _ (subl1 w3)) (hts _ (subl1 w7)) (hs _ (w8 _ (List.mem_of_getElem? (i := 0) rfl))) hA, vx_Zqof (hts _ (subl1 w4)) (hts _ (subl1 w7)) (hs _ (w8 _ (List.mem_of_getElem? (i := 1) rfl))) hA, fun i j hi hj hij => ?_⟩
    · by_cases c2 : 2 ≤ a ∧ a < 190
      · by_cases c3 : a % 2 = 0
        · obtain ⟨k, hk, rfl⟩ : ∃ k, k < 94 ∧ a = 2 * k + 2 := ⟨(a - 2) / 2, by omega, by omega⟩
          obtain ⟨q, -, h⟩ := had2 k hk
          rw [rhoE_0 hk]; exact h.2.1
        · obtain ⟨k, hk, rfl⟩ : ∃ k, k < 94 ∧ a = 2 * k + 3 := ⟨(a - 3) / 2, by omega, by omega⟩
          obtain ⟨q, -, h⟩ := had2 k hk
          rw [rhoE_1 hk]; exact h.2.2.1
      · rw [rhoE_b ha c2]; exact hbl
    · unfold Launch.stackTraces
      rw [hflags]
      decide
    · have hk : k < 94 := by
        have := (List.getElem?_eq_some_iff.mp hq).1
        rwa [strs_len.1] at this
      have hw : srW q ∈ lw_tbl := subl_mem _ _ SR_ok _ (List.mem_map_of_mem (List.mem_of_getElem? hq))
      rw [rhoE_0 hk]
      exact vk_R.of (hts _ hw) (had k hk q hq).1
    · have h := List.all_eq_true.mp (List.all_eq_true.mp nc_ok i (List.mem_range.mpr hi)) j (List.mem_range.mpr hj)
      simp only [Bool.or_eq_true, beq_iff_eq] at h
      rcases h with h | h
      · exact absurd h hij
      · exact va_Nc.of (hs _ (List.contains_iff_mem.mp h))
  have hR := rel_E (D := (fun c => (dd c).1, fun c => (dd c).2)) (z := z) hX (fun k hk => by
    obtain ⟨q, -, h⟩ := had2 k hk
    exact ⟨_, _, _, h⟩)
  obtain ⟨hF9, kk, hrun, hn, hu⟩ := law_abs hL (t := tE L ad) (i := iE xs ad) (r := rE) rfl (fun k hk => ⟨by rw [tE_0 hk], rE_0 hk, by rw [tE_1 hk]⟩) (fun k hk => by
    obtain ⟨q, -, -, -, -, -, -, -, -, -, -, h1, -, h2⟩ := had2 k hk
    have ew : wch (2 * k + 2) = (STC[k]?).getD [] := by
      unfold wch
      rw [show (2 * k + 2 - 2) / 2 = k by omega]
    refine ⟨iE_0 hk 1, ?_, fun j hj => ?_⟩
    · rw [tE_1 hk]
      unfold wln
      rw [ew]
      exact h1
    · unfold wln at hj
      unfold wc
      rw [ew] at hj ⊢
      rw [iE_1 hk]
      exact h2 j hj)
  exact law_run G hx hb hml hown hr hlocks law_rows rfl pcs0 (sound G 401) (by decide) hR (rhoE_b (a := 1) (by decide) (by decide)) hrun (by show aN hF9 - 1000 ≤ 601024; omega) (by show aU hF9 - 0 ≤ 7293034; omega)
def lw_P2 (b : Addr) (xs : List Int32) (args : Array Value) (s : State) : Prop := lw_P b xs args s ∧ heapFits s = true
set_option maxHeartbeats 4000000 in
theorem lw_walk (l : Launch) (hflags : l.flags = flags0) (b : Addr) (xs : List Int32) : MetFree l x (headSpec (Jvm.Cond.code x code maxLocals ret :: tables_1) room_1) (lw_P2 b xs) (fun _ _ _ _ _ => True) lw_Q := by
  refine MetFree.of_bodyS (code := code) (maxLocals := maxLocals) (ret := ret) (by decide) ?_ ?_
  · intro args s m h hn
    obtain ⟨meth, c, h1, h2, h3, h4, h5, h6, -, -⟩ := Cond.code_spec hn (atoms_spec (ws := Jvm.Cond.code x code maxLocals ret :: tables_1) h _ List.mem_cons_self)
    exact ⟨meth, c, h1, h2, h3, h4, h5, h6⟩
  · intro p e s m args below meth c s₁ B hml0 hP _
    obtain ⟨⟨rfl, hx, hbd, hgv⟩, hF⟩ := hP
    obtain ⟨scr, harrAt, hlist, hof, hsmall⟩ := hx
    obtain ⟨hcb, hkn, -, -⟩ := State.arrayAt?_spec harrAt
    have hown : s.vm.findClass R_law = some m.cls := findClass_of_methodNamed B.named
    have hts0 : ∀ c ∈ (Jvm.Cond.code x code maxLocals ret :: tables_1), c.before #[Value.ref b] s = true := atoms_spec (ws := Jvm.Cond.code x code maxLocals ret :: tables_1) B.pre
    have hts : ∀ w ∈ lw_tbl, w.before #[Value.ref b] s = true := k2_hts_sels lw_privs (fun w hw => hts0 w (List.mem_cons_of_mem _ hw)) lw_privs_ok
    have hml : c.maxLocals = 7 := B.maxLocals_eq (hts0 _ List.mem_cons_self)
    have X₀ : Stand p l e room_1 s m #[Value.ref b] below meth c s₁ [] 0 0 := Stand.of_body B
    have hh0 : s₁.heap = s.heap := by rw [B.state]; rfl
    have hsz : scr.slots.size = xs.length := by rw [← Array.length_toList, hlist, List.length_map]
    have hval : ∀ j : Nat, j < xs.length → scr.slots[j]? = some (.int (xs.getD j 0)) := fun j hj => by
      rw [← Array.getElem?_toList, hlist]
      simp [hj]
    have hbl : b < s.heap.size := (Array.getElem?_eq_some_iff.mp hcb).1
    have hX : va_X b xs.length (fun j => xs.getD j 0) s s.heap := ⟨scr, hcb, hof, hkn, hsz, hval⟩
    have K : W p l e room_1 s m #[Value.ref b] below meth c s₁.heap [] 0 0 (lw_Z below #[Value.ref b] s) (entryFrame m ([Value.ref b] : List Value).toArray 7) := by
      rw [hh0]
      exact whole_start l hflags hbd hF ⟨B.exec, B.bytes, B.returns, hml, hown, hts, hX, hbl, B.notSynchronized, hgv⟩
    obtain ⟨t, a1, o, b1, b2, b3⟩ := K s₁ rfl X₀
    exact ⟨t, o, a1, b1, b2, b3⟩
theorem lw_pre_spec {args : Array Value} {s : State} (h : (Jvm.Cond.and given_1 narrow_1).before args s = true) (hr : rest_1_c.before args s = true) : ∃ (b : Addr) (xs : List Int32), lw_P b xs args s := by
  have hs := flat_of_before _ h
  have hq := flat_of_before _ hr
  have hc : (Cond.count 1).before args s = true := hs _ (by decide +kernel)
  have harr : (Cond.arrayOf (.arg 0) .int).before args s = true := hs _ (by decide +kernel)
  have hle : (Cond.le (.length (.arg 0)) (.int 3072)).before args s = true := hs _ (by decide +kernel)
  have hlen : (Cond.isInt (.length (.arg 0))).before args s = true := hq _ (by decide +kernel)
  have hall : (Cond.all (.arg 0) (.isInt (.elem (.arg 0) (.index 0)))).before args s = true := hq _ (by decide +kernel)
  obtain ⟨b, xs, hb, hx⟩ := State.ints_of_pre rfl harr hlen hall
  have hsm : xs.length < 2 ^ 31 := hx.choose_spec.2.2.2
  have hev : (Term.length (.arg 0)).eval args s none [] s = some (.int xs.length.toInt32) := hx.length_eval hb
  have hv := Cond.le_ints hev (show (Term.int 3072).eval args s none [] s = some (.int 3072) from rfl)
  have hd : xs.length.toInt32 ≤ 3072 := by
    simpa [Cond.before, Cond.holds, hv] using hle
  have hN : xs.length ≤ 3072 := (Int32.ofNat_le_ofNat hsm (by decide)).mp (show Int32.ofNat xs.length ≤ Int32.ofNat 3072 from hd)
  exact ⟨b, xs, Cond.one_arg hc (show args[0]? = some (.ref b) from hb), hx, hN, h⟩
theorem lw_comes (l : Launch) (hflags : l.flags = flags0) : Comes l x (Jvm.Cond.code x code maxLocals ret :: tables_1) room_1 (fun tb e args s => Calls_1 tb e args s ∧ rest_1 tb e args s ∧ Pre_1 tb e args s)
    (fun _ _ args s o t => lw_Q args s o t) := by
  intro p e ha hc hk s m args below hf hfit hheap happ hpre
  obtain ⟨b, xs, hP⟩ := lw_pre_spec hpre.2.2 hpre.2.1
  obtain ⟨k, o, h1, h2, h3, hQ⟩ := lw_walk l hflags b xs p e ha hc hk s m args below hf ((Spec.applies_iff_loose hf).mp happ).1 ⟨hP, hheap⟩ trivial
  exact ⟨k, o, h1, h2, h3, hQ⟩
theorem lw_frame {s t : State} {o : Outcome} {args : Array Value} (h : Framed s o t [] 601024 7293034) :
    Framed s o t (fieldLocs frame_1_writes args s ++ arrayLocs frame_1_arrays args s ++ staticLocs frame_1_statics s) 601024 7293034 := h
theorem lw_limb (L : Cond) (hL : ∀ (args : Array Value) (s t : State), L.after args s (.returned (some (.int 1))) t = true) :
    ArmFor flags0 classFile x code maxLocals ret World_1 tables_1 room_1 Calls_1 rest_1 Pre_1
      (fun tb e a s o t => postC L tb e a s o t ∧ Framed s o t (fieldLocs frame_1_writes a s ++ arrayLocs frame_1_arrays a s ++ staticLocs frame_1_statics s) 601024 7293034) := by
  intro l hflags _ _ p e ha hc hk s m args below hf hfit hheap happ hpre
  obtain ⟨k, o, h1, h2, h3, rfl, hF⟩ := lw_comes l hflags p e ha hc hk s m args below hf hfit hheap happ hpre
  exact ⟨k, _, h1, h2, h3, hL args s _, lw_frame hF⟩
theorem i_vc : Claimed_1_1 ∧ Claimed_1_2 := ⟨lw_limb limb_1_1 (fun args s t => by simp [limb_1_1, Cond.after, Cond.holds, Cond.value]), lw_limb limb_1_2 (fun args s t => Cond.after_iff.mpr (by
  first | (rw [show limb_1_2 = Cond.eq .result (.int 1) from rfl, Cond.eq_ints (x := 1) (y := 1) rfl rfl]; simp; done) | (simp [limb_1_2, Cond.value, Term.eval]; done)))⟩
