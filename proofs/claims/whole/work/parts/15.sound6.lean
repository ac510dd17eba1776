/-! ===== branches, array copies, exceptions made ===== -/
section BRS
variable {p : Program} {l : Launch} {e : Env} {R : Room} {s : State} {m : MethodId} {args : Array Value} {below : List Frame} {meth : Method} {c : Code} {H : Heap} {locs : List Loc} {cells slots : Nat} {Q : State → Prop}
variable {s0 : State} {D : va_G} {ρ : Nat → Nat} {z : Value} {cc : ByteArray} {own : String} {ini : Bool} {pcs : List Nat} {r : Nat × Instr × Nat × Nat} {L S : List Value} {nL n0 u0 : Nat}
theorem i_le (x y : Int32) : y ≤ x ↔ ¬ x < y := Int32.not_lt.symm
set_option maxHeartbeats 8000000 in
theorem ss_icmp (hx : p.tables.exec = Jvm.exec) (hb : c.code = cc) {cn : ClassFile.Cond} {o : Int} {nx tg : Nat} {x y cst : Int32} {h : aH} (hok : okE cc own ini pcs (.if_icmp cn o, cst, nx, tg) r = true)
    (k : KC p l e R s m args below meth c Q s0 D ρ z nL n0 u0 ((pcs[match cn with | .eq => if x = y then tg else nx | .ne => if x = y then nx else tg | .lt => if x < y then tg else nx | .ge => if x < y then nx else tg | .gt => if y < x then tg else nx | .le => if y < x then nx else tg]?).getD 0) L S h) : KC p l e R s m args below meth c Q s0 D ρ z nL n0 u0 r.1 L (.int y :: .int x :: S) h := by
  obtain ⟨pc, raw, len, lk⟩ := r
  simp only [okE, Bool.and_eq_true, decide_eq_true_eq] at hok
  obtain ⟨hd, ⟨hn, rfl⟩, rfl⟩ := hok
  dsimp only at hd hn ⊢
  intro H locs hR hlo ls hl
  simp only [List.map_cons, cvV]
  have ht : (pc : Int) + tgE pcs pc tg = ((pcs[tg]?.getD 0 : Nat) : Int) := by simp only [tgE, Int.toNat_natCast]; omega
  have k2 := k H locs hR hlo ls hl
  cases cn
  · refine lv_icmp_eq (tgt := pcs[tg]?.getD 0) hx hb hd ht (fun h9 => ?_) (fun h9 => ?_)
    · simpa only [if_pos h9] using k2
    · rw [← hn]; simpa only [if_neg h9] using k2
  · refine lv_icmp_ne (tgt := pcs[tg]?.getD 0) hx hb hd ht (fun h9 => ?_) (fun h9 => ?_)
    · simpa only [if_neg h9] using k2
    · rw [← hn]; simpa only [if_pos h9] using k2
  · refine lv_icmp_lt (tgt := pcs[tg]?.getD 0) hx hb hd ht (fun h9 => ?_) (fun h9 => ?_)
    · simpa only [if_pos h9] using k2
    · rw [← hn]; simpa only [if_neg h9] using k2
  · refine lv_icmp_ge (tgt := pcs[tg]?.getD 0) hx hb hd ht (fun h9 => ?_) (fun h9 => ?_)
    · simpa only [if_neg ((i_le x y).mp h9)] using k2
    · rw [← hn]; simpa only [if_pos (Classical.not_not.mp (fun h8 => h9 ((i_le x y).mpr h8)))] using k2
  · refine lv_icmp_gt (tgt := pcs[tg]?.getD 0) hx hb hd ht (fun h9 => ?_) (fun h9 => ?_)
    · simpa only [if_pos h9] using k2
    · rw [← hn]; simpa only [if_neg h9] using k2
  · refine lv_icmp_le (tgt := pcs[tg]?.getD 0) hx hb hd ht (fun h9 => ?_) (fun h9 => ?_)
    · simpa only [if_neg ((i_le y x).mp h9)] using k2
    · rw [← hn]; simpa only [if_pos (Classical.not_not.mp (fun h8 => h9 ((i_le y x).mpr h8)))] using k2
set_option maxHeartbeats 8000000 in
theorem ss_if (hx : p.tables.exec = Jvm.exec) (hb : c.code = cc) {cn : ClassFile.Cond} {o : Int} {nx tg : Nat} {x cst : Int32} {h : aH} (hok : okE cc own ini pcs (.ifCond cn o, cst, nx, tg) r = true)
    (k : KC p l e R s m args below meth c Q s0 D ρ z nL n0 u0 ((pcs[match cn with | .eq => if x = 0 then tg else nx | .ne => if x = 0 then nx else tg | .lt => if x < 0 then tg else nx | .ge => if x < 0 then nx else tg | .gt => if 0 < x then tg else nx | .le => if 0 < x then nx else tg]?).getD 0) L S h) : KC p l e R s m args below meth c Q s0 D ρ z nL n0 u0 r.1 L (.int x :: S) h := by
  obtain ⟨pc, raw, len, lk⟩ := r
  simp only [okE, Bool.and_eq_true, decide_eq_true_eq] at hok
  obtain ⟨hd, ⟨hn, rfl⟩, rfl⟩ := hok
  dsimp only at hd hn ⊢
  intro H locs hR hlo ls hl
  simp only [List.map_cons, cvV]
  have ht : (pc : Int) + tgE pcs pc tg = ((pcs[tg]?.getD 0 : Nat) : Int) := by simp only [tgE, Int.toNat_natCast]; omega
  have k2 := k H locs hR hlo ls hl
  cases cn
  · refine lv_if_eq (tgt := pcs[tg]?.getD 0) hx hb hd ht (fun h9 => ?_) (fun h9 => ?_)
    · simpa only [if_pos h9] using k2
    · rw [← hn]; simpa only [if_neg h9] using k2
  · refine lv_if_ne (tgt := pcs[tg]?.getD 0) hx hb hd ht (fun h9 => ?_) (fun h9 => ?_)
    · simpa only [if_neg h9] using k2
    · rw [← hn]; simpa only [if_pos h9] using k2
  · refine lv_if_lt (tgt := pcs[tg]?.getD 0) hx hb hd ht (fun h9 => ?_) (fun h9 => ?_)
    · simpa only [if_pos h9] using k2
    · rw [← hn]; simpa only [if_neg h9] using k2
  · refine lv_if_ge (tgt := pcs[tg]?.getD 0) hx hb hd ht (fun h9 => ?_) (fun h9 => ?_)
    · simpa only [if_neg ((i_le x 0).mp h9)] using k2
    · rw [← hn]; simpa only [if_pos (Classical.not_not.mp (fun h8 => h9 ((i_le x 0).mpr h8)))] using k2
  · refine lv_if_gt (tgt := pcs[tg]?.getD 0) hx hb hd ht (fun h9 => ?_) (fun h9 => ?_)
    · simpa only [if_pos h9] using k2
    · rw [← hn]; simpa only [if_neg h9] using k2
  · refine lv_if_le (tgt := pcs[tg]?.getD 0) hx hb hd ht (fun h9 => ?_) (fun h9 => ?_)
    · simpa only [if_neg ((i_le 0 x).mp h9)] using k2
    · rw [← hn]; simpa only [if_pos (Classical.not_not.mp (fun h8 => h9 ((i_le 0 x).mpr h8)))] using k2
theorem ss_ifnull (hx : p.tables.exec = Jvm.exec) (hb : c.code = cc) {o : Int} {nx tg : Nat} {cst : Int32} {v : Value} {h : aH} (hok : okE cc own ini pcs (.ifnull o, cst, nx, tg) r = true) (hv : v = .null ∨ ∃ a, v = .ref a ∧ a ≠ 999)
    (k : KC p l e R s m args below meth c Q s0 D ρ z nL n0 u0 ((pcs[match v with | .null => tg | _ => nx]?).getD 0) L S h) : KC p l e R s m args below meth c Q s0 D ρ z nL n0 u0 r.1 L (v :: S) h := by
  obtain ⟨pc, raw, len, lk⟩ := r
  simp only [okE, Bool.and_eq_true, decide_eq_true_eq] at hok
  obtain ⟨hd, ⟨hn, rfl⟩, rfl⟩ := hok
  dsimp only at hd hn ⊢
  intro H locs hR hlo ls hl
  have ht : (pc : Int) + tgE pcs pc tg = ((pcs[tg]?.getD 0 : Nat) : Int) := by simp only [tgE, Int.toNat_natCast]; omega
  have k2 := k H locs hR hlo ls hl
  simp only [List.map_cons]
  rcases hv with rfl | ⟨a, rfl, ha⟩
  · exact lv_ifnullN (tgt := pcs[tg]?.getD 0) hx hb hd ht k2
  · simp only [cvV, if_neg ha]
    exact lv_ifnull hx hb hd (by rw [← hn]; exact k2)
theorem ss_ifnonnull (hx : p.tables.exec = Jvm.exec) (hb : c.code = cc) {o : Int} {nx tg : Nat} {cst : Int32} {v : Value} {h : aH} (hok : okE cc own ini pcs (.ifnonnull o, cst, nx, tg) r = true) (hv : v = .null ∨ ∃ a, v = .ref a ∧ a ≠ 999)
    (k : KC p l e R s m args below meth c Q s0 D ρ z nL n0 u0 ((pcs[match v with | .null => nx | _ => tg]?).getD 0) L S h) : KC p l e R s m args below meth c Q s0 D ρ z nL n0 u0 r.1 L (v :: S) h := by
  obtain ⟨pc, raw, len, lk⟩ := r
  simp only [okE, Bool.and_eq_true, decide_eq_true_eq] at hok
  obtain ⟨hd, ⟨hn, rfl⟩, rfl⟩ := hok
  dsimp only at hd hn ⊢
  intro H locs hR hlo ls hl
  have ht : (pc : Int) + tgE pcs pc tg = ((pcs[tg]?.getD 0 : Nat) : Int) := by simp only [tgE, Int.toNat_natCast]; omega
  have k2 := k H locs hR hlo ls hl
  simp only [List.map_cons]
  rcases hv with rfl | ⟨a, rfl, ha⟩
  · exact lv_ifnonnullN hx hb hd (by rw [← hn]; exact k2)
  · simp only [cvV, if_neg ha]
    exact lv_ifnonnull (tgt := pcs[tg]?.getD 0) hx hb hd ht k2
theorem ss_tsw (hx : p.tables.exec = Jvm.exec) (hb : c.code = cc) {dd lo hi : Int} {offs : Array Int} {nx tg t : Nat} {x cst : Int32} {h : aH} (hok : okE cc own ini pcs (.tableswitch dd lo hi offs, cst, nx, tg) r = true) (ht : (x.toInt < lo ∨ hi < x.toInt) ∧ t = dd.toNat ∨ ¬ (x.toInt < lo ∨ hi < x.toInt) ∧ ∃ o, offs[(x.toInt - lo).toNat]? = some o ∧ t = o.toNat)
    (k : KC p l e R s m args below meth c Q s0 D ρ z nL n0 u0 ((pcs[t]?).getD 0) L S h) : KC p l e R s m args below meth c Q s0 D ρ z nL n0 u0 r.1 L (.int x :: S) h := by
  obtain ⟨pc, raw, len, lk⟩ := r
  simp only [okE, Bool.and_eq_true, decide_eq_true_eq] at hok
  obtain ⟨hd, rfl⟩ := hok
  dsimp only at hd ⊢
  intro H locs hR hlo ls hl
  have k2 := k H locs hR hlo ls hl
  simp only [List.map_cons, cvV]
  rcases ht with ⟨h1, rfl⟩ | ⟨h1, o, h2, rfl⟩
  · exact lv_tableOut (tgt := pcs[dd.toNat]?.getD 0) hx hb hd h1 (by simp only [tgE]; omega) k2
  · exact lv_tableIn (tgt := pcs[o.toNat]?.getD 0) (off := tgE pcs pc o) hx hb hd (fun h9 => h1 (Or.inl h9)) (fun h9 => h1 (Or.inr h9)) (by rw [Array.getElem?_map, h2]; rfl) (by simp only [tgE]; omega) k2
theorem lsw_off (f : Int → Int) (dd x : Int) : ∀ ps : List (Int × Int), Op.lookupswitch.offset (ps.map fun q => (q.1, f q.2)) (f dd) x = f (lsw dd x ps)
  | [] => rfl
  | q :: ps => by
    show (if q.1 = x then f q.2 else Op.lookupswitch.offset (ps.map fun q => (q.1, f q.2)) (f dd) x) = f (if q.1 = x then q.2 else lsw dd x ps)
    by_cases h : q.1 = x
    · rw [if_pos h, if_pos h]
    · rw [if_neg h, if_neg h]; exact lsw_off f dd x ps
theorem ss_lsw (hx : p.tables.exec = Jvm.exec) (hb : c.code = cc) {dd : Int} {ps : Array (Int × Int)} {nx tg : Nat} {x cst : Int32} {h : aH} (hok : okE cc own ini pcs (.lookupswitch dd ps, cst, nx, tg) r = true)
    (k : KC p l e R s m args below meth c Q s0 D ρ z nL n0 u0 ((pcs[(lsw dd x.toInt ps.toList).toNat]?).getD 0) L S h) : KC p l e R s m args below meth c Q s0 D ρ z nL n0 u0 r.1 L (.int x :: S) h := by
  obtain ⟨pc, raw, len, lk⟩ := r
  simp only [okE, Bool.and_eq_true, decide_eq_true_eq] at hok
  obtain ⟨hd, rfl, hs⟩ := hok
  dsimp only at hd ⊢
  intro H locs hR hlo ls hl
  have k2 := k H locs hR hlo ls hl
  simp only [List.map_cons, cvV]
  refine lv_lookup (tgt := pcs[(lsw dd x.toInt ps.toList).toNat]?.getD 0) (off := tgE pcs pc (lsw dd x.toInt ps.toList)) hx hb hd ?_ (by rw [Array.toList_map]; exact lsw_off (tgE pcs pc) dd x.toInt ps.toList) (by simp only [tgE]; omega) k2
  rw [Array.toList_map]
  rw [List.all_eq_true] at hs ⊢
  intro q hq
  rw [← List.map_drop, List.zip_map, List.mem_map] at hq
  obtain ⟨w, hw, rfl⟩ := hq
  exact hs w hw
end BRS
