/-! ===== array copies ===== -/
theorem sp_slots (at_ : Nat) : ∀ (xs : List Value) (i : Nat) (ce : Cell) (k : Nat), k < ce.slots.size → (ce.storePairs at_ (xs.zipIdx i)).slots[k]? = if at_ + i ≤ k ∧ k < at_ + i + xs.length then some (xs.getD (k - (at_ + i)) .null) else ce.slots[k]?
  | [], i, ce, k, _ => by
    rw [if_neg (by simp only [List.length_nil]; omega)]
    rfl
  | x :: xs, i, ce, k, hk => by
    rw [List.zipIdx_cons]
    show ((ce.setSlot (at_ + i) x).storePairs at_ (xs.zipIdx (i + 1))).slots[k]? = _
    rw [sp_slots at_ xs (i + 1) _ k (by simpa [Cell.setSlot] using hk)]
    by_cases h0 : k = at_ + i
    · subst h0
      rw [if_neg (by omega), if_pos (by simp only [List.length_cons]; omega)]
      simp [Cell.setSlot, hk]
    · by_cases h : at_ + (i + 1) ≤ k ∧ k < at_ + (i + 1) + xs.length
      · rw [if_pos h, if_pos (by simp only [List.length_cons]; omega)]
        have e : k - (at_ + i) = (k - (at_ + (i + 1))) + 1 := by omega
        rw [e, List.getD_cons_succ]
      · rw [if_neg h, if_neg (by simp only [List.length_cons]; omega)]
        simp [Cell.setSlot, Array.getElem?_setIfInBounds, Ne.symm h0]
section CPY
variable {p : Program} {l : Launch} {e : Env} {R : Room} {s : State} {m : MethodId} {args : Array Value} {below : List Frame} {meth : Method} {c : Code} {H : Heap} {locs : List Loc} {cells slots : Nat} {Q : State → Prop}
variable {s0 : State} {D : va_G} {ρ : Nat → Nat} {z : Value} {cc : ByteArray} {own : String} {ini : Bool} {pcs : List Nat} {r : Nat × Instr × Nat × Nat} {L S : List Value} {nL n0 u0 : Nat}
theorem nn_i (z : Int32) (hz : ¬ z < 0) : z.toInt = (z.toNatClampNeg : Int) := by
  have hz0 : (0 : Int) ≤ z.toInt := by
    have := Int32.not_lt.mp hz
    simpa using Int32.le_iff_toInt_le.mp this
  show z.toInt = ((z.toInt.toNat : Nat) : Int)
  omega
theorem rel_cpy (G : Gho l s0 D ρ z) {h : aH} {H H' : Heap} {a b sp dp n : Nat} {cell cell' : Cell} (hR : RelH s0 D ρ z h H) (ha : aT h a = 100) (hb : aT h b = 100) (hb2 : 1000 ≤ b) (hc : H[ρ b]? = some cell)
    (e1 : H'[ρ b]? = some cell') (e2 : H'.size = H.size) (e3 : ∀ q, q ≠ ρ b → H'[q]? = H[q]?) (f1 : cell'.cls = cell.cls) (f2 : cell'.vm = cell.vm) (f3 : cell'.slots.size = cell.slots.size)
    (f4 : ∀ j, j < cell.slots.size → cell'.slots[j]? = if dp ≤ j ∧ j < dp + n then some (.int (aI h a (sp + (j - dp)))) else cell.slots[j]?) : RelH s0 D ρ z (aCpy h a sp b dp n) H' := by
  obtain ⟨-, -, cell9, q1, q2, q3, q4, q5, q6⟩ := arr_at hR (a := b) (by omega) (by omega)
  cases hc.symm.trans q1
  have hI : ∀ c k, aI (aCpy h a sp b dp n) c k = if c = b ∧ dp ≤ k ∧ k < dp + n then aI h a (sp + (k - dp)) else aI h c k := fun c k => rfl
  refine rel_upd G hR hb2 rfl (fun _ => rfl) (fun _ => rfl) (fun c k hcb => by rw [hI, if_neg (fun h9 => hcb h9.1)]) (fun c k hcb => rfl) e2 e3 ⟨fun h9 => ?_, fun h9 => ?_, fun _ h9 => ?_, fun _ _ => ⟨_, e1, ?_, ?_, ?_, ?_, ?_⟩⟩
  · have h8 : aT h b < 13 := h9
    omega
  · have h8 : aT h b = 13 := h9
    omega
  · have h8 : aT h b < 25 := h9
    omega
  · obtain ⟨w1, w2⟩ := q2
    exact ⟨by rw [f2]; exact w1, by rw [f1]; exact w2⟩
  · rw [f2]; exact q3
  · rw [f3]; exact q4
  · intro j hj
    have hj' : j < aL h b := hj
    rw [f4 j (by omega)]
    have e9 : aV (aCpy h a sp b dp n) b j = .int (aI (aCpy h a sp b dp n) b j) := by
      unfold aV
      rw [if_pos (show aT (aCpy h a sp b dp n) b ≤ 102 by show aT h b ≤ 102; omega)]
    rw [e9, hI]
    by_cases h9 : dp ≤ j ∧ j < dp + n
    · rw [if_pos h9, if_pos ⟨rfl, h9⟩]; rfl
    · rw [if_neg h9, if_neg (fun h8 => h9 h8.2)]
      have h5 := q5 j hj'
      unfold aV at h5
      rw [if_pos (show aT h b ≤ 102 by omega)] at h5
      exact h5
  · intro h9
    obtain ⟨w1, w2⟩ := q6 h9
    exact ⟨by rw [f2]; exact w1, by rw [f1]; exact w2⟩
set_option maxHeartbeats 4000000 in
theorem ss_copy (G : Gho l s0 D ρ z) (hW : s0.WarmedH s.vm) (hx : p.tables.exec = Jvm.exec) (hb : c.code = cc) (hml : c.maxLocals = nL) (hown : s.vm.findClass own = some m.cls) {t9 nx tg a b : Nat} {cst n dp sp : Int32} {h : aH} (hok : okE cc own ini pcs (.invokedynamic t9, cst, nx, tg) r = true) (ht : aT h a = 100) (htb : aT h b = 100) (hb1 : 1000 ≤ b) (h8 : cat8 S = true)
    (i1 : ¬ sp < 0) (i2 : ¬ dp < 0) (i3 : ¬ n < 0) (i4 : sp.toNatClampNeg + n.toNatClampNeg ≤ aL h a) (i5 : dp.toNatClampNeg + n.toNatClampNeg ≤ aL h b) (hRf : 1 ≤ R.frames) (hRl : 8 + (nativeFrameWords "java/lang/System" "arraycopy" 5 + 11) ≤ R.locals)
    (k : KC p l e R s m args below meth c Q s0 D ρ z nL n0 u0 ((pcs[nx]?).getD 0) L S (aCpy h a sp.toNatClampNeg b dp.toNatClampNeg n.toNatClampNeg)) : KC p l e R s m args below meth c Q s0 D ρ z nL n0 u0 r.1 L (.int n :: .int dp :: .ref b :: .int sp :: .ref a :: S) h := by
  obtain ⟨pc, raw, len, lk⟩ := r
  simp only [okE, Bool.and_eq_true, decide_eq_true_eq] at hok
  obtain ⟨hd, ⟨hn, rfl⟩, hr⟩ := hok
  dsimp only at hd hn ⊢
  split at hr
  · rename_i q hq
    simp only [Bool.and_eq_true, decide_eq_true_eq] at hr
    obtain ⟨⟨rfl, rfl⟩, hq2⟩ := hr
    have hlink := word_on G hW (subl_mem _ _ ML_ok _ (List.mem_map_of_mem (List.mem_of_getElem? hq))) rfl args
    simp only [mlW, hq2] at hlink
    have hnat : (Cond.native arraycopyName).before args s = true := word_on G hW (by decide +kernel) rfl args
    have hstat : (Cond.static arraycopyName).before args s = true := word_on G hW (by decide +kernel) rfl args
    have hini : (Cond.initialized "java/lang/System").before args s = true := word_on G hW (by decide +kernel) rfl args
    intro H locs hR hlo ls hl
    obtain ⟨hcva, -, ca, q1, q2, q3, q4, q5, -⟩ := arr_at hR (a := a) (by omega) (by omega)
    obtain ⟨hcvb, -, cb, p1, p2, p3, p4, p5, -⟩ := arr_at hR (a := b) (by omega) (by omega)
    rw [ht] at q2
    rw [htb] at p2
    simp only [List.map_cons, hcva, hcvb]
    intro T hT X
    obtain ⟨-, ks, hks, comps, hkinds⟩ := State.isArrayOf_alike hW.alike q2
    obtain ⟨-, kd, hkd, compd, hkindd⟩ := State.isArrayOf_alike hW.alike p2
    have hcs := catS (ρ := ρ) G.2.1 S
    have h8' : (S.map fun v => v.category).sum ≤ 8 := of_decide_eq_true h8
    have hval : ∀ i, i < n.toNatClampNeg → ca.slots[sp.toNatClampNeg + i]? = some (.int (aI h a (sp.toNatClampNeg + i))) := fun i hi => by
      have h5 := q5 (sp.toNatClampNeg + i) (by omega)
      unfold aV at h5
      rw [if_pos (show aT h a ≤ 102 by omega)] at h5
      exact h5
    obtain ⟨vm', X', st⟩ := X.arraycopy hx hown hlink hnat hstat hini (src := ρ a) (dst := ρ b) (cs := ca) (cd := cb) (srcPos := sp) (destPos := dp) (n := n) (by rw [hT]; exact q1) (by rw [hT]; exact p1)
      q2.1 p2.1 q3 p3 hks hkd hkinds hkindd (by decide) i1 i2 i3
      (by rw [nn_i sp i1, nn_i n i3, q4]; omega) (by rw [nn_i dp i2, nn_i n i3, p4]; omega)
      (fun vm₁ _ i hi => by
        have e9 : ca.slots.getD (sp.toNatClampNeg + i) .null = .int (aI h a (sp.toNatClampNeg + i)) := by
          rw [Array.getD_eq_getD_getElem?, hval i hi]; rfl
        rw [e9]
        exact ⟨rfl, trivial⟩)
      (g := F0 m pc ls (.int n :: .int dp :: .ref (ρ b) :: .int sp :: .ref (ρ a) :: S.map (cvV ρ z))) rfl (by rw [hml]; exact hl.1) (rest := S.map (cvV ρ z)) rfl (by rw [hb]; exact hd) hRf (by show 2 * 0 + _ + _ ≤ _; rw [hcs]; omega)
    have hlt : ρ b < H.size := (Array.getElem?_eq_some_iff.mp p1).1
    obtain ⟨f1, f2, f3, -, -⟩ := Cell.storePairs_facts cb dp.toNatClampNeg ((ca.stretch sp.toNatClampNeg n.toNatClampNeg).zipIdx)
    have hlen : (ca.stretch sp.toNatClampNeg n.toNatClampNeg).length = n.toNatClampNeg := by simp [Cell.stretch]
    have hrel : RelH s0 D ρ z (aCpy h a sp.toNatClampNeg b dp.toNatClampNeg n.toNatClampNeg) (H.setIfInBounds (ρ b) (copied ca cb sp dp n)) := by
      refine rel_cpy G hR ht htb hb1 p1 (cell' := copied ca cb sp dp n) (by simp [Array.getElem?_setIfInBounds, hlt]) (by simp) (fun q hq => by simp [Array.getElem?_setIfInBounds, Ne.symm hq]) f1 f2 f3 (fun j hj => ?_)
      have h6 := sp_slots dp.toNatClampNeg (ca.stretch sp.toNatClampNeg n.toNatClampNeg) 0 cb j hj
      refine h6.trans ?_
      rw [hlen]
      by_cases h9 : dp.toNatClampNeg ≤ j ∧ j < dp.toNatClampNeg + n.toNatClampNeg
      · rw [if_pos (by omega), if_pos h9]
        have hi : j - dp.toNatClampNeg < n.toNatClampNeg := by omega
        rw [List.getD_eq_getElem?_getD]
        have : (ca.stretch sp.toNatClampNeg n.toNatClampNeg)[j - (dp.toNatClampNeg + 0)]? = some (.int (aI h a (sp.toNatClampNeg + (j - dp.toNatClampNeg)))) := by
          unfold Cell.stretch
          rw [Nat.add_zero, List.getElem?_map, List.getElem?_range hi]
          show some (ca.slots.getD _ _) = _
          rw [Array.getD_eq_getD_getElem?, hval _ hi]; rfl
        rw [this]; rfl
      · rw [if_neg (by omega), if_neg h9]
    have k2 := KC.go hn k _ (locs ++ (ca.stretch sp.toNatClampNeg n.toNatClampNeg).zipIdx.map fun q => ⟨ρ b, dp.toNatClampNeg + q.2⟩) hrel (fun q hq => by
      rcases List.mem_append.mp hq with h | h
      · exact hlo q h
      · obtain ⟨w, -, rfl⟩ := List.mem_map.mp h
        have := G.1.2.1 b hb1
        show _ ≤ ρ b
        omega) ls hl
    obtain ⟨t, a1, b1⟩ := k2 ((T.setVm vm').setCell (ρ b) (copied ca cb sp dp n)) (by rw [← hT]; rfl) X'
    exact ⟨t, st t a1, b1⟩
  · cases hr
end CPY
