/-! ===== thrown cells: handlers and ways out; returns ===== -/
theorem lR_setU {ρ : Nat → Nat} {z : Value} (hz : z = .null ∨ ∃ q, z = .ref q) {nL k : Nat} {ls' : Array Slot} {L : List Value} {v : Value} {lv' : List (Nat × Value)} (hL : L.length = nL) (h : lv_has ls' nL lv')
    (he : (k, v) :: (lRl ρ z L).filter (fun q => !(q.1 == k) && !(q.1 + 1 == k && q.2.category == 2)) = lv') : lR ρ z nL ls' (L.set k uV) := by
  obtain ⟨h1, h2, h3⟩ := h
  refine ⟨h1, by rw [List.length_set]; exact hL, h2, fun i w hw hu hc => ?_⟩
  by_cases hik : i = k
  · subst hik
    have hl : i < L.length := by
      have := (List.getElem?_eq_some_iff.mp hw).1
      rwa [List.length_set] at this
    rw [List.getElem?_set_self hl] at hw
    cases hw
    exact absurd rfl hu
  · rw [List.getElem?_set_ne (Ne.symm hik)] at hw
    refine h3 (i, cvV ρ z w) ?_
    rw [← he]
    refine List.mem_cons_of_mem _ (List.mem_filter.mpr ⟨?_, ?_⟩)
    · refine List.mem_filterMap.mpr ⟨i, List.mem_range.mpr (List.getElem?_eq_some_iff.mp hw).1, ?_⟩
      simp [hw, hu, hc]
    · have hcat : ((cvV ρ z w).category == 2) = false := by
        cases w with
        | ref a => simp only [cvV]; split
                   · rcases hz with rfl | ⟨q, rfl⟩ <;> rfl
                   · rfl
        | _ => simp_all [cvV, Value.category]
      simp only [hcat, Bool.and_false, Bool.not_false, Bool.and_true]
      simp [hik]
theorem ex_cast : (List.range 5).all (fun j => lw_tbl.contains (Jvm.Cond.castable (EXn j) (EXn j))) = true := by decide +kernel
section ENDS
variable {p : Program} {l : Launch} {e : Env} {R : Room} {s : State} {m : MethodId} {args : Array Value} {below : List Frame} {meth : Method} {c : Code} {H : Heap} {locs : List Loc} {cells slots : Nat} {Q : State → Prop}
variable {s0 : State} {D : va_G} {ρ : Nat → Nat} {z : Value} {cc : ByteArray} {own : String} {ini : Bool} {pcs : List Nat} {r : Nat × Instr × Nat × Nat} {L S : List Value} {nL n0 u0 : Nat}
theorem row_off (G : Gho l s0 D ρ z) (hW : s0.WarmedH s.vm) {pc t : Nat} {w : Nat × Nat × Nat × Nat} (ht : 20 ≤ t ∧ t < 25) (h : rowOff own pc t w) : covers ⟨w.1, w.2.1, w.2.2.1, w.2.2.2⟩ pc = false ∨ (w.2.2.2 ≠ 0 ∧ ∃ nm : String, (Cond.classLink own w.2.2.2 nm).before args s = true ∧ va_Nc (EXn (t - 20)) nm s) := by
  rcases h with h | ⟨h0, j, hj, hj2, q, hq, hq2⟩
  · left
    rw [← Bool.not_eq_true]
    intro h9
    simp only [covers, Bool.and_eq_true, decide_eq_true_eq] at h9
    exact h h9
  · right
    have hlink := word_on G hW (subl_mem _ _ CL_ok _ (List.mem_map_of_mem hq)) rfl args
    rw [hq2] at hlink
    exact ⟨h0, EXn j, hlink, va_Nc.moved hW.alike (G.2.2.2.2.2.2.2.2.2.2 (t - 20) j (by omega) hj (fun h9 => hj2 h9.symm))⟩
set_option maxHeartbeats 4000000 in
theorem ex_thrown (G : Gho l s0 D ρ z) (hW : s0.WarmedH s.vm) (hx : p.tables.exec = Jvm.exec) (hb : c.code = cc) (hown : s.vm.findClass own = some m.cls) {y i : Nat} {M : mM} {h : aH} {rows : List (Nat × Instr × Nat × Nat)} (hrows : ∀ (i : Nat) (e : mE), M.1[i]? = some e → ∃ r, rows[i]? = some r ∧ okE cc own ini pcs e r = true) (hpcs : pcs = rows.map fun r => r.1)
    (hH : okH own pcs M.2.1 (mH y) = true) {o : oR} (htab : ((∃ v, o = .inl v) ∧ M.2.1 = []) ∨ c.exceptionTable.toList = tableOf (mH y)) (hlocks : meth.locks = false) (hi : i < pcs.length) {hF : aH} {q : Nat} (ht : 20 ≤ aT h q ∧ aT h q < 25) {res : cfg ⊕ (oR × aH)} (hthr : thr M i L h q = some res) {mc ms : Nat} (hmc : mc = aN hF - n0) (hms : ms = aU hF - u0)
    (kI : ∀ c', res = .inl c' → KC p l e R s m args below meth c (vx_MQ below (McQ s0 D ρ z o hF) (McX s0 D ρ z o hF) args s mc ms (frB s0)) s0 D ρ z nL n0 u0 ((pcs[c'.1]?).getD 0) c'.2.1 c'.2.2.1 c'.2.2.2) (kR : ∀ r', res = .inr r' → r' = (o, hF))
    (hst : ∀ (t k : Nat) (cst : Int32) (nx tg : Nat), M.1[t]? = some (Instr.astore k, cst, nx, tg) → k < nL)
    {H : Heap} {locs : List Loc} {ls : Array Slot} {rest : List Value} {ce : Cell} {q9 : Addr} (hR : RelH s0 D ρ z h H) (hlo : ∀ q ∈ locs, s0.heap.size ≤ q.base) (hl : lR ρ z nL ls L) (hce : H[q9]? = some ce) (hcv : ce.vm = .none) (hcl : s.vm.findClass (EXn (aT h q - 20)) = some ce.cls) :
    vx_W p l e R s m args below meth c H locs (aN h - n0) (aU h - u0) (vx_MQ below (McQ s0 D ρ z o hF) (McX s0 D ρ z o hF) args s mc ms (frB s0)) (F0 m (pcs[i]?.getD 0) ls rest) q9 := by
  unfold thr at hthr
  rcases htab with ⟨⟨v9, ho9⟩, hM9⟩ | htab
  · rw [hM9] at hthr
    dsimp only [hnd] at hthr
    have e9 := kR _ (Option.some.inj hthr).symm
    rw [ho9] at e9
    cases e9
  split at hthr
  · rename_i t hh
    split at hthr
    · rename_i k9 cst9 nx9 tg9 hat
      cases hthr
      have k2 := kI _ rfl
      obtain ⟨pre, x, suf, e1, e2, e3, e4, e5, q5, e6, e7⟩ := okH_some hi ht.1 _ _ hH hh
      obtain ⟨r, hr1, hr2⟩ := hrows t _ hat
      have hpc : pcs[t]?.getD 0 = r.1 := by rw [hpcs, List.getElem?_map, hr1]; rfl
      have hlink := word_on G hW (subl_mem _ _ CL_ok _ (List.mem_map_of_mem e6)) rfl args
      rw [e7] at hlink
      have hcast : (Cond.castable (EXn (aT h q - 20)) (EXn (aT h q - 20))).before args s = true := word_on G hW (List.contains_iff_mem.mp (List.all_eq_true.mp ex_cast _ (List.mem_range.mpr (by omega)))) rfl args
      refine vx_catch (own := own) (name := EXn (aT h q - 20)) (E := EXn (aT h q - 20)) hown (tableOf pre) ⟨x.1, x.2.1, x.2.2.1, x.2.2.2⟩ (tableOf suf) (by rw [htab, e1]; simp [tableOf]) (fun w hw => ?_) (by simp only [covers, Bool.and_eq_true, decide_eq_true_eq]; exact e3) e5 hlink hcast hce hcv hcl ?_
      · obtain ⟨v, hv, rfl⟩ := List.mem_map.mp hw
        exact row_off G hW ht (e2 v hv)
      · show W _ _ _ _ _ _ _ _ _ _ _ _ _ _ _ (F0 m x.2.2.1 ls [.ref q9])
        rw [e4, hpc]
        obtain ⟨pc, raw, len, lk⟩ := r
        simp only [okE, Bool.and_eq_true, decide_eq_true_eq] at hr2
        obtain ⟨hd, hn, hr⟩ := hr2
        simp only [Bool.or_eq_true, Bool.and_eq_true, decide_eq_true_eq] at hr
        have k3 := KC.go hn k2 H locs hR hlo
        have hk9 := hst _ _ _ _ _ hat
        rcases hr with ⟨rfl, rfl⟩ | ⟨⟨h4, rfl⟩, rfl⟩
        · exact lv_astore hx hb hd (lR_has hl) hk9 rfl (fun ls' h' => k3 ls' (lR_setU G.2.1 hl.2.1 h' rfl))
        · exact lv_astore_n (i := k9) hx hb hd (Nat.mod_eq_of_lt h4) (lR_has hl) hk9 rfl (fun ls' h' => k3 ls' (lR_setU G.2.1 hl.2.1 h' rfl))
    · cases hthr
  · rename_i hh
    cases hthr
    cases kR _ rfl
    subst hmc
    subst hms
    refine vx_outP (own := own) (E := EXn (aT h q - 20)) hown hlocks (fun w hw => ?_) hce hcv hcl (fun t he _ => ⟨q, rfl, ht.1, ht.2, rfl, by rw [he]; exact hR⟩) hlo (Nat.le_refl _) (Nat.le_refl _)
    rw [htab] at hw
    obtain ⟨v, hv, rfl⟩ := List.mem_map.mp hw
    exact row_off G hW ht (okH_none hi ht.1 _ _ hH hh v hv)
end ENDS
