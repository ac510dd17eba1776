/-! ===== makings, branches, natives ===== -/
section MAKE
variable {p : Program} {l : Launch} {e : Env} {R : Room} {s : State} {m : MethodId} {args : Array Value} {below : List Frame} {meth : Method} {c : Code} {H : Heap} {locs : List Loc} {cells slots : Nat} {Q : State → Prop}
variable {s0 : State} {D : va_G} {ρ : Nat → Nat} {z : Value} {cc : ByteArray} {own : String} {ini : Bool} {pcs : List Nat} {r : Nat × Instr × Nat × Nat} {L S : List Value} {nL n0 u0 : Nat}
theorem rho_new (G : Gho l s0 D ρ z) {h : aH} {H : Heap} (hR : RelH s0 D ρ z h H) : ρ (aN h) = H.size ∧ cvV ρ z (.ref (aN h)) = .ref H.size := by
  have h1 := G.1.2.1 (aN h) hR.2.1
  have h2 := hR.1
  have h3 := hR.2.1
  have h4 : ρ (aN h) = H.size := by omega
  refine ⟨h4, ?_⟩
  show (if aN h = 999 then z else .ref (ρ (aN h))) = _
  rw [if_neg (by omega), h4]
/-- one cell was made -/
theorem rel_new (G : Gho l s0 D ρ z) {h : aH} {H H' : Heap} {t len u : Nat} (hR : RelH s0 D ρ z h H) (hz : H'.size = H.size + 1) (ho : ∀ q : Nat, q < H.size → H'[q]? = H[q]?) (hc : celR s0 D ρ z (aNew h t len u) H' (aN h)) : RelH s0 D ρ z (aNew h t len u) H' := by
  refine rel_grow G 1 hR rfl (fun b hb => ?_) (fun b hb => ?_) (fun b j hb => ?_) (fun b j hb => ?_) hz ho (fun b hb => ?_) (fun b h1 h2 => ?_)
  · have : b ≠ h.1 := by have : aN h = h.1 := rfl; omega
    simp [aT, aNew, this]
  · have : b ≠ h.1 := by have : aN h = h.1 := rfl; omega
    simp [aL, aNew, this]
  · have : b ≠ h.1 := by have : aN h = h.1 := rfl; omega
    simp [aI, aNew, this]
  · have : b ≠ h.1 := by have : aN h = h.1 := rfl; omega
    simp [aR, aNew, this]
  · have : b ≠ h.1 := by have : aN h = h.1 := rfl; omega
    have h9 := hR.2.2.2.2.1 b (by omega)
    simpa [aT, aNew, this] using h9
  · have : b = aN h := by omega
    rw [this]; exact hc
theorem tagA_cases {ty : ArrayType} (h : tagA ty ≤ 103) : (newarray.typeOf ty = aTy (tagA ty)) ∧ Jvm.Cond.arrayClass (newarray.typeOf ty) ∈ lw_tbl ∧ componentBytes (newarray.typeOf ty) ≤ 8 ∧ 100 ≤ tagA ty := by
  have hi : Jvm.Cond.arrayClass .int ∈ lw_tbl := by decide +kernel
  have hb : Jvm.Cond.arrayClass .byte ∈ lw_tbl := by decide +kernel
  have hz : Jvm.Cond.arrayClass .boolean ∈ lw_tbl := by decide +kernel
  have hl : Jvm.Cond.arrayClass .long ∈ lw_tbl := by decide +kernel
  cases ty <;> first | exact ⟨rfl, hi, by decide, by decide⟩ | exact ⟨rfl, hb, by decide, by decide⟩ | exact ⟨rfl, hz, by decide, by decide⟩ | exact ⟨rfl, hl, by decide, by decide⟩ | (exfalso; revert h; decide)
set_option maxHeartbeats 4000000 in
theorem ss_newarray (G : Gho l s0 D ρ z) (hW : s0.WarmedH s.vm) (hx : p.tables.exec = Jvm.exec) (hb : c.code = cc) {ty : ArrayType} {nx tg : Nat} {n cst : Int32} {h : aH} (hok : okE cc own ini pcs (.newarray ty, cst, nx, tg) r = true) (ht : tagA ty ≤ 103) (hn9 : ¬ n < 0) (hn8 : n.toNatClampNeg ≤ 1000000) (hn0 : n0 ≤ aN h) (hu0 : u0 ≤ aU h) (hc1 : aN h + 1 - n0 ≤ R.cells) (hs1 : aU h + n.toNatClampNeg - u0 ≤ R.slots)
    (k : KC p l e R s m args below meth c Q s0 D ρ z nL n0 u0 ((pcs[nx]?).getD 0) L (.ref (aN h) :: S) (aNew h (tagA ty) n.toNatClampNeg n.toNatClampNeg)) : KC p l e R s m args below meth c Q s0 D ρ z nL n0 u0 r.1 L (.int n :: S) h := by
  obtain ⟨pc, raw, len, lk⟩ := r
  simp only [okE, Bool.and_eq_true, decide_eq_true_eq] at hok
  obtain ⟨hd, ⟨hn, rfl⟩, rfl⟩ := hok
  obtain ⟨e1, e2, e3, e4⟩ := tagA_cases ht
  intro H locs hR hlo ls hl
  obtain ⟨g1, g2⟩ := rho_new G hR
  simp only [List.map_cons]
  refine W.newa hx hb (word_on G hW e2 rfl args) rfl hd rfl hn9 (Nat.le_trans (Nat.mul_le_mul hn8 e3) (by decide)) (by omega) (by omega) (fun cA kA comp f1 f2 f3 => ?_)
  have hT9 : aT (aNew h (tagA ty) n.toNatClampNeg n.toNatClampNeg) (aN h) = tagA ty := by simp [aT, aNew, aN]
  have hL9 : aL (aNew h (tagA ty) n.toNatClampNeg n.toNatClampNeg) (aN h) = n.toNatClampNeg := by simp [aL, aNew, aN]
  have hrel : RelH s0 D ρ z (aNew h (tagA ty) n.toNatClampNeg n.toNatClampNeg) (H.push { cls := cA, slots := Array.replicate n.toNatClampNeg (defaultValue (newarray.typeOf ty)), vm := .none }) := by
    refine rel_new G hR (by simp) (fun q hq => by rw [Array.getElem?_push, if_neg (Nat.ne_of_lt hq)]) ⟨fun h9 => ?_, fun h9 => ?_, fun _ h9 => ?_, fun _ h9 => ⟨_, by rw [g1]; exact Array.getElem?_push_size, ?_, (fun h9 => by cases h9), ?_, fun j hj => ?_, fun _ => ⟨rfl, ?_⟩⟩⟩
    · rw [hT9] at h9; omega
    · rw [hT9] at h9; omega
    · rw [hT9] at h9; omega
    · rw [hT9, ← e1]
      exact State.isArrayOf_alike hW.alike.symm ⟨fun k h => (by cases h), kA, f2, comp, f3⟩
    · rw [hL9]; simp
    · rw [hL9] at hj
      have h0 : (Array.replicate n.toNatClampNeg (defaultValue (newarray.typeOf ty)))[j]? = some (defaultValue (newarray.typeOf ty)) := by simp [hj]
      refine h0.trans (congrArg some ?_)
      have hI9 : aI (aNew h (tagA ty) n.toNatClampNeg n.toNatClampNeg) (aN h) j = 0 := by simp [aI, aNew, aN]
      unfold aV
      rw [hT9, hI9, e1]
      clear hc1 hs1 k hT9 hL9 hI9
      cases ty <;> first | rfl | (exfalso; revert ht; decide)
    · rw [hT9, ← e1, ← hW.alike.findClass]; exact f1
  have k2 := KC.go hn k _ locs hrel hlo ls hl
  simp only [List.map_cons, g2] at k2
  have c1 : aN (aNew h (tagA ty) n.toNatClampNeg n.toNatClampNeg) - n0 = aN h - n0 + 1 := by
    show aN h + 1 - n0 = _
    omega
  have c2 : aU (aNew h (tagA ty) n.toNatClampNeg n.toNatClampNeg) - u0 = aU h - u0 + n.toNatClampNeg := by
    show aU h + n.toNatClampNeg - u0 = _
    omega
  rw [c1, c2] at k2
  exact k2
set_option maxHeartbeats 4000000 in
theorem ss_anewarray (G : Gho l s0 D ρ z) (hW : s0.WarmedH s.vm) (hx : p.tables.exec = Jvm.exec) (hb : c.code = cc) (hown : s.vm.findClass own = some m.cls) {t9 nx tg : Nat} {n cst : Int32} {h : aH} (hok : okE cc own ini pcs (.anewarray t9, cst, nx, tg) r = true) (hn9 : ¬ n < 0) (hn8 : n.toNatClampNeg ≤ 1000000) (hn0 : n0 ≤ aN h) (hu0 : u0 ≤ aU h) (hc1 : aN h + 1 - n0 ≤ R.cells) (hs1 : aU h + n.toNatClampNeg - u0 ≤ R.slots)
    (k : KC p l e R s m args below meth c Q s0 D ρ z nL n0 u0 ((pcs[nx]?).getD 0) L (.ref (aN h) :: S) (aNew h 105 n.toNatClampNeg n.toNatClampNeg)) : KC p l e R s m args below meth c Q s0 D ρ z nL n0 u0 r.1 L (.int n :: S) h := by
  obtain ⟨pc, raw, len, lk⟩ := r
  simp only [okE, Bool.and_eq_true, decide_eq_true_eq] at hok
  obtain ⟨hd, ⟨hn, rfl⟩, hr⟩ := hok
  dsimp only at hd hn ⊢
  split at hr
  · rename_i q hq
    simp only [Bool.and_eq_true, decide_eq_true_eq] at hr
    obtain ⟨⟨rfl, rfl⟩, hq2⟩ := hr
    have hlink := word_on G hW (subl_mem _ _ CL_ok _ (List.mem_map_of_mem (List.mem_of_getElem? hq))) rfl args
    simp only [clW, hq2] at hlink
    have ho : (Cond.arrayOver (.object "LastCatch$Sea")).before #[] s0 = true := G.2.2.2.1 _ (by decide +kernel)
    obtain ⟨comp, ca, ka, o1, o2, o3, o4, o5⟩ := Cond.arrayOver_spec ho
    intro H locs hR hlo ls hl
    obtain ⟨g1, g2⟩ := rho_new G hR
    simp only [List.map_cons]
    have hover : (Cond.arrayOver (.object "LastCatch$Sea")).before args s = true := by
      obtain ⟨k', hk', he⟩ := hW.alike.2.2 _ _ o3
      have e1 : s.vm.findClass "LastCatch$Sea" = some comp := by rw [hW.alike.findClass]; exact o1
      have e3 : s.vm.findClass ("[" ++ (FieldType.object "LastCatch$Sea").toString) = some ca := by rw [hW.alike.findClass]; exact o5
      have e2 : (s.vm.classes.findIdx? fun x => match x.kind with | .array component _ => component == comp | _ => false) = some ca := by
        rw [hW.alike.findIdx?_eq _ (fun _ => rfl)]; exact o2
      have hkind' : k'.kind = .array comp (.object "LastCatch$Sea") := by rw [he]; exact o4
      simp only [Cond.before, Cond.holds, Cond.value, beq_iff_eq, e1, Option.bind_some]
      simp [e3]
      first
        | exact Option.bind_eq_some_iff.mpr ⟨ca, e2, by simp [hk', hkind']⟩
        | exact ⟨ca, e2, k', hk', by simp [hkind']⟩
        | simp [e2, hk', hkind']
    refine W.anew hx hb (C := "LastCatch$Sea") hown hlink hover rfl hd rfl hn9 (by omega) (by omega) (by omega) (fun cA kA comp2 f1 f2 f3 f4 => ?_)
    have hT9 : aT (aNew h 105 n.toNatClampNeg n.toNatClampNeg) (aN h) = 105 := by simp [aT, aNew, aN]
    have hL9 : aL (aNew h 105 n.toNatClampNeg n.toNatClampNeg) (aN h) = n.toNatClampNeg := by simp [aL, aNew, aN]
    have hrel : RelH s0 D ρ z (aNew h 105 n.toNatClampNeg n.toNatClampNeg) (H.push { cls := cA, slots := Array.replicate n.toNatClampNeg .null, vm := .none }) := by
      refine rel_new G hR (by simp) (fun q hq => by rw [Array.getElem?_push, if_neg (Nat.ne_of_lt hq)]) ⟨fun h9 => ?_, fun h9 => ?_, fun _ h9 => ?_, fun _ h9 => ⟨_, by rw [g1]; exact Array.getElem?_push_size, ?_, (fun h9 => by cases h9), ?_, fun j hj => ?_, fun _ => ⟨rfl, ?_⟩⟩⟩
      · rw [hT9] at h9; omega
      · rw [hT9] at h9; omega
      · rw [hT9] at h9; omega
      · rw [hT9]
        exact State.isArrayOf_alike hW.alike.symm ⟨fun k h => (by cases h), kA, f2, comp2, f3⟩
      · rw [hL9]; simp
      · rw [hL9] at hj
        have h0 : (Array.replicate n.toNatClampNeg Value.null)[j]? = some Value.null := by simp [hj]
        refine h0.trans (congrArg some ?_)
        have hI9 : aR (aNew h 105 n.toNatClampNeg n.toNatClampNeg) (aN h) j = 0 := by simp [aR, aNew, aN]
        unfold aV
        rw [hT9, hI9]
        rfl
      · rw [hT9, ← hW.alike.findClass]; exact f1
    have k2 := KC.go hn k _ locs hrel hlo ls hl
    simp only [List.map_cons, g2] at k2
    have c1 : aN (aNew h 105 n.toNatClampNeg n.toNatClampNeg) - n0 = aN h - n0 + 1 := by
      show aN h + 1 - n0 = _
      omega
    have c2 : aU (aNew h 105 n.toNatClampNeg n.toNatClampNeg) - u0 = aU h - u0 + n.toNatClampNeg := by
      show aU h + n.toNatClampNeg - u0 = _
      omega
    rw [c1, c2] at k2
    exact k2
  · cases hr
theorem in_tbl : ((List.range 13).all fun c => lw_tbl.contains (.instantiable (CNn c) (nF c)) && lw_tbl.contains (.initialized (CNn c))) = true := by decide +kernel
set_option maxHeartbeats 4000000 in
theorem ss_new (G : Gho l s0 D ρ z) (hW : s0.WarmedH s.vm) (hx : p.tables.exec = Jvm.exec) (hb : c.code = cc) (hown : s.vm.findClass own = some m.cls) {t9 nx tg : Nat} {cst : Int32} {h : aH} (hok : okE cc own ini pcs (.new t9, cst, nx, tg) r = true) (h13 : t9 < 13) (hn0 : n0 ≤ aN h) (hu0 : u0 ≤ aU h) (hc1 : aN h + 1 - n0 ≤ R.cells) (hs1 : aU h + nF t9 - u0 ≤ R.slots)
    (k : KC p l e R s m args below meth c Q s0 D ρ z nL n0 u0 ((pcs[nx]?).getD 0) L (.ref (aN h) :: S) (aNew h t9 (nF t9) (nF t9))) : KC p l e R s m args below meth c Q s0 D ρ z nL n0 u0 r.1 L S h := by
  obtain ⟨pc, raw, len, lk⟩ := r
  simp only [okE, Bool.and_eq_true, decide_eq_true_eq, if_pos h13] at hok
  obtain ⟨hd, rfl, hn, hr⟩ := hok
  dsimp only at hd hn ⊢
  split at hr
  · rename_i q hq
    simp only [Bool.and_eq_true, decide_eq_true_eq] at hr
    obtain ⟨⟨rfl, rfl⟩, hq2⟩ := hr
    have hlink := word_on G hW (subl_mem _ _ CL_ok _ (List.mem_map_of_mem (List.mem_of_getElem? hq))) rfl args
    simp only [clW, hq2] at hlink
    have hin := List.all_eq_true.mp in_tbl t9 (List.mem_range.mpr h13)
    simp only [Bool.and_eq_true] at hin
    have hw1 := word_on G hW (List.contains_iff_mem.mp hin.1) rfl args
    have hw2 := word_on G hW (List.contains_iff_mem.mp hin.2) rfl args
    intro H locs hR hlo ls hl
    obtain ⟨g1, g2⟩ := rho_new G hR
    refine W.newc hx hb hown hlink hw1 hw2 rfl hd (by omega) (by omega) (fun cC kC f1 f2 f3 f4 => ?_)
    obtain ⟨hS, hfc, kC2, hkC2, hkind⟩ := u_Kn_moved hW.alike (G.2.2.2.2.1 t9 h13)
    have z1 : cC = D.1 t9 := Option.some.inj (f1.symm.trans hfc)
    have hT9 : aT (aNew h t9 (nF t9) (nF t9)) (aN h) = t9 := by simp [aT, aNew, aN]
    have hrel : RelH s0 D ρ z (aNew h t9 (nF t9) (nF t9)) (H.push { cls := cC, slots := kC.instanceTypes.map defaultValue, vm := .none }) := by
      refine rel_new G hR (by simp) (fun q hq => by rw [Array.getElem?_push, if_neg (Nat.ne_of_lt hq)]) ⟨fun _ => ⟨_, by rw [g1]; exact Array.getElem?_push_size, by rw [hT9]; exact z1, rfl, fun j hj => ?_⟩, fun h9 => ?_, fun h9 _ => ?_, fun h9 _ => ?_⟩
      · rw [hT9] at hj ⊢
        obtain ⟨cf, kf, fi, fd, hi, he⟩ := hS j hj
        have h3 := (u_facts hfc (by rw [← z1]; exact f2) (u_lays (u_on G hW h13 args) (fun _ h => h) hj) hi).2.2
        obtain ⟨t1, t2, t3, t4⟩ := ty_ok h13 hj
        rw [(State.fieldFound?_type hi t1).2] at h3
        have h5 : (kC.instanceTypes.map defaultValue)[D.2 t9 j]? = some (defaultValue (fTy t9 j)) := by
          rw [← he]
          simp only [Array.getElem?_map, h3, Option.map_some]
        refine h5.trans (congrArg some ?_)
        have hI9 : aI (aNew h t9 (nF t9) (nF t9)) (aN h) j = 0 := by simp [aI, aNew, aN]
        have hR9 : aR (aNew h t9 (nF t9) (nF t9)) (aN h) j = 0 := by simp [aR, aNew, aN]
        have hkd : fK t9 j = 0 ∨ fK t9 j = 1 ∨ fK t9 j = 2 := by
          have h1 := List.all_eq_true.mp (List.all_eq_true.mp ty_tbl t9 (List.mem_range.mpr h13)) j (List.mem_range.mpr hj)
          simp only [Bool.and_eq_true] at h1
          have h2 := h1.2
          rcases Nat.lt_or_ge (fK t9 j) 3 with h3 | h3
          · omega
          · exfalso
            obtain ⟨y, hy⟩ : ∃ y, fK t9 j = y + 3 := ⟨fK t9 j - 3, by omega⟩
            rw [hy] at h2
            simp at h2
        unfold fV
        rw [hI9, hR9]
        rcases hkd with h1 | h1 | h1
        · rw [h1, t2 h1]; rfl
        · rw [h1]
          have := t4 h1
          cases hft : fTy t9 j <;> rw [hft] at this <;> first | rfl | (simp [FieldType.isReference] at this)
        · rw [h1, t3 h1]; rfl
      · rw [hT9] at h9; omega
      · rw [hT9] at h9; omega
      · rw [hT9] at h9; omega
    have k2 := KC.go hn k _ locs hrel hlo ls hl
    simp only [List.map_cons, g2] at k2
    have c1 : aN (aNew h t9 (nF t9) (nF t9)) - n0 = aN h - n0 + 1 := by
      show aN h + 1 - n0 = _
      omega
    have c2 : aU (aNew h t9 (nF t9) (nF t9)) - u0 = aU h - u0 + nF t9 := by
      show aU h + nF t9 - u0 = _
      omega
    rw [c1, c2] at k2
    exact k2
  · cases hr
end MAKE
