/-! ===== what an abstract heap is of a heap; the pure steps ===== -/
def cvV (ρ : Nat → Nat) (z : Value) : Value → Value
  | .ref a => if a = 999 then z else .ref (ρ a)
  | v => v
def aV (h : aH) (a k : Nat) : Value := if aT h a ≤ 102 then .int (aI h a k) else if aT h a = 103 then .long (aI h a k).toInt64 else rV (aR h a k)
def aTy (t : Nat) : FieldType := if t = 100 then .int else if t = 101 then .byte else if t = 102 then .boolean else if t = 103 then .long else if t = 104 then .array .int else .object "LastCatch$Sea"
/-- locals: what the list tells of the frame's -/
def lR (ρ : Nat → Nat) (z : Value) (nL : Nat) (ls : Array Slot) (L : List Value) : Prop := ls.size = nL ∧ L.length = nL ∧ lv_wf ls ∧ ∀ (i : Nat) (v : Value), L[i]? = some v → v ≠ uV → v.category = 1 → ls[i]? = some (.val (cvV ρ z v))
def lRl (ρ : Nat → Nat) (z : Value) (L : List Value) : List (Nat × Value) := (List.range L.length).filterMap fun i => match L[i]? with
  | some v => if v = uV ∨ v.category ≠ 1 then none else some (i, cvV ρ z v)
  | none => none
theorem lR_has {ρ : Nat → Nat} {z : Value} {nL : Nat} {ls : Array Slot} {L : List Value} (h : lR ρ z nL ls L) : lv_has ls nL (lRl ρ z L) := by
  obtain ⟨h1, h2, h3, h4⟩ := h
  refine ⟨h1, h3, fun q hq => ?_⟩
  obtain ⟨i, -, hi⟩ := List.mem_filterMap.mp hq
  cases hv : L[i]? with
  | none => simp [hv] at hi
  | some v =>
    simp only [hv] at hi
    by_cases hu : v = uV ∨ v.category ≠ 1
    · simp [hu] at hi
    · rw [if_neg hu] at hi
      cases hi
      exact h4 i v hv (fun e => hu (Or.inl e)) (Classical.byContradiction fun e => hu (Or.inr e))
theorem lR_set {ρ : Nat → Nat} {z : Value} (hz : z = .null ∨ ∃ q, z = .ref q) {nL k : Nat} {ls' : Array Slot} {L : List Value} {v : Value} {lv' : List (Nat × Value)} (hL : L.length = nL) (h : lv_has ls' nL lv')
    (he : (k, cvV ρ z v) :: (lRl ρ z L).filter (fun q => !(q.1 == k) && !(q.1 + 1 == k && q.2.category == 2)) = lv') : lR ρ z nL ls' (L.set k v) := by
  obtain ⟨h1, h2, h3⟩ := h
  refine ⟨h1, by rw [List.length_set]; exact hL, h2, fun i w hw hu hc => ?_⟩
  by_cases hik : i = k
  · subst hik
    have hl : i < L.length := by
      have := (List.getElem?_eq_some_iff.mp hw).1
      rwa [List.length_set] at this
    rw [List.getElem?_set_self hl] at hw
    cases hw
    exact h3 (i, cvV ρ z v) (by rw [← he]; exact List.mem_cons_self)
  · rw [List.getElem?_set_ne (Ne.symm hik)] at hw
    refine h3 (i, cvV ρ z w) ?_
    rw [← he]
    refine List.mem_cons_of_mem _ (List.mem_filter.mpr ⟨?_, ?_⟩)
    · refine List.mem_filterMap.mpr ⟨i, List.mem_range.mpr (List.getElem?_eq_some_iff.mp hw).1, ?_⟩
      simp [hw, hu, hc]
    · have hcat : ((cvV ρ z w).category == 2) = false := by
        cases w with
        | ref a => simp only [cvV]; split
                   · rcases hz with rfl | ⟨q, rfl⟩ <;> rfl
                   · rfl
        | _ => simp_all [cvV, Value.category]
      simp only [hcat, Bool.and_false, Bool.not_false, Bool.and_true]
      simp [hik]
theorem lR_args {ρ : Nat → Nat} {z : Value} (hz : z = .null ∨ ∃ q, z = .ref q) (as : List Value) {n : Nat} (hn : as.length ≤ n) (hc : ∀ v ∈ as, v.category = 1) (hu : ∀ v ∈ as, v ≠ uV) {ls : Array Slot} (h : lv_has ls n (lv_args 0 (as.map (cvV ρ z)))) : lR ρ z n ls (as ++ List.replicate (n - as.length) uV) := by
  obtain ⟨h1, h2, h3⟩ := h
  have key : ∀ (l : List Value) (k : Nat), (∀ v ∈ l, v.category = 1) → ∀ (i : Nat) (v : Value), l[i]? = some v → (k + i, v) ∈ lv_args k l := by
    intro l
    induction l with
    | nil => intro k _ i v hv; simp at hv
    | cons w l ih =>
      intro k hl i v hv
      cases i with
      | zero =>
        rw [List.getElem?_cons_zero] at hv
        cases hv
        unfold lv_args
        split <;> first | exact List.mem_cons_self | simp
      | succ i =>
        rw [List.getElem?_cons_succ] at hv
        have hw := hl w List.mem_cons_self
        have := ih (k + 1) (fun v hv => hl v (List.mem_cons_of_mem _ hv)) i v hv
        rw [show k + 1 + i = k + (i + 1) by omega] at this
        unfold lv_args
        first
          | (rw [hw]; exact List.mem_cons_of_mem _ this)
          | (split
             · simp_all
             · exact List.mem_cons_of_mem _ this)
          | simp_all
  have hcv : ∀ v : Value, v.category = 1 → (cvV ρ z v).category = 1 := by
    intro v hv
    cases v with
    | ref a => simp only [cvV]; split
               · rcases hz with rfl | ⟨q, rfl⟩ <;> rfl
               · rfl
    | _ => simp_all [cvV, Value.category]
  refine ⟨h1, by simp; omega, h2, fun i v hv hv2 _ => ?_⟩
  by_cases hi : i < as.length
  · rw [List.getElem?_append_left hi] at hv
    have h9 := key (as.map (cvV ρ z)) 0 (fun w hw => by
      obtain ⟨x, hx, rfl⟩ := List.mem_map.mp hw
      exact hcv x (hc x hx)) i (cvV ρ z v) (by rw [List.getElem?_map, hv]; rfl)
    rw [Nat.zero_add] at h9
    exact h3 _ h9
  · rw [List.getElem?_append_right (by omega)] at hv
    have := List.mem_of_getElem? hv
    rw [List.mem_replicate] at this
    exact absurd this.2 hv2
theorem cat_cv {ρ : Nat → Nat} {z : Value} (hz : z = .null ∨ ∃ q, z = .ref q) (v : Value) : (cvV ρ z v).category = v.category := by
  cases v with
  | ref a => simp only [cvV]; split
             · rcases hz with rfl | ⟨q, rfl⟩ <;> rfl
             · rfl
  | _ => rfl
theorem catS {ρ : Nat → Nat} {z : Value} (hz : z = .null ∨ ∃ q, z = .ref q) (S : List Value) : ((S.map (cvV ρ z)).map fun v => v.category).sum = (S.map fun v => v.category).sum := by
  induction S with
  | nil => rfl
  | cons v S ih => simp only [List.map_cons, List.sum_cons, ih, cat_cv hz]
/-- what is told of a cell -/
def celR (s0 : State) (D : va_G) (ρ : Nat → Nat) (z : Value) (h : aH) (H : Heap) (a : Nat) : Prop :=
  (aT h a < 13 → ∃ cell : Cell, H[ρ a]? = some cell ∧ cell.cls = D.1 (aT h a) ∧ cell.vm = .none ∧ ∀ k, k < nF (aT h a) → cell.slots[D.2 (aT h a) k]? = some (cvV ρ z (fV h a (aT h a) k)))
  ∧ (aT h a = 13 → va_O "java/lang/String" (ρ a) (fun _ => False) s0 H ∧ va_OF "java/lang/String" "value" "[B" (cvV ρ z (fV h a 13 0)) (ρ a) (fun _ => False) s0 H ∧ va_OF "java/lang/String" "coder" "B" (cvV ρ z (fV h a 13 1)) (ρ a) (fun _ => False) s0 H)
  ∧ (20 ≤ aT h a → aT h a < 25 → ∃ cell : Cell, H[ρ a]? = some cell ∧ cell.vm = .none ∧ s0.vm.findClass (EXn (aT h a - 20)) = some cell.cls)
  ∧ (100 ≤ aT h a → aT h a ≤ 105 → ∃ cell : Cell, H[ρ a]? = some cell ∧ s0.isArrayOf cell (aTy (aT h a)) ∧ cell.vm ≠ .unknown ∧ cell.slots.size = aL h a ∧ (∀ k, k < aL h a → cell.slots[k]? = some (cvV ρ z (aV h a k))) ∧ (1000 ≤ a → cell.vm = .none ∧ s0.vm.findClass ("[" ++ (aTy (aT h a)).toString) = some cell.cls))
def RelH (s0 : State) (D : va_G) (ρ : Nat → Nat) (z : Value) (h : aH) (H : Heap) : Prop :=
  H.size + 1000 = s0.heap.size + aN h ∧ 1000 ≤ aN h ∧ (∀ q, q < s0.heap.size → H[q]? = s0.heap[q]?) ∧ aT h 999 = 999 ∧ (∀ a, aN h ≤ a → aT h a = 999) ∧ ∀ a, a < aN h → celR s0 D ρ z h H a
/-- what holds at the law's entry, of the machine's tables and its old cells -/
def Gho (l : Launch) (s0 : State) (D : va_G) (ρ : Nat → Nat) (z : Value) : Prop :=
  (0 < s0.heap.size ∧ (∀ a, 1000 ≤ a → ρ a = s0.heap.size + (a - 1000)) ∧ (∀ a, a < 1000 → ρ a < s0.heap.size)) ∧ (z = .null ∨ ∃ q, z = .ref q) ∧ l.stackTraces = false ∧
  (∀ w ∈ lw_tbl, w.before #[] s0 = true) ∧
  (∀ c, c < 13 → u_Kn s0 (CNn c) (TF c) (nF c) (D.1 c) (D.2 c)) ∧
  (∀ k q, SRl[k]? = some q → vk_R q.1 q.2.1 q.2.2 (ρ (2 * k + 2)) s0) ∧
  va_Z "java/lang/String" "COMPACT_STRINGS" "Z" (.int 1) (fun q => s0.heap.size ≤ q) s0 s0.heap ∧
  va_Z "jdk/internal/util/Preconditions" "SIOOBE_FORMATTER" "Ljava/util/function/BiFunction;" z (fun q => s0.heap.size ≤ q) s0 s0.heap ∧
  vx_Zq Bundle.tN "UNASSIGNED_STACK" Bundle.steD (fun q => s0.heap.size ≤ q) s0 s0.heap ∧ vx_Zq Bundle.tN "SUPPRESSED_SENTINEL" Bundle.listD (fun q => s0.heap.size ≤ q) s0 s0.heap ∧
  (∀ i j, i < 5 → j < 5 → i ≠ j → va_Nc (EXn i) (EXn j) s0)
def wK : Jvm.Cond → Bool
  | .stringRef .. => false
  | .laysStatic .. => false
  | .arrayOver .. => false
  | _ => true
theorem tbl_face : (lw_tbl.all (fun w => goodWord w || (w.onTables && w.keepsFace) || !wK w)) = true := by decide +kernel
/-- a table's word holds wherever the tables have only grown warmer -/
theorem word_on {l : Launch} {s0 : State} {D : va_G} {ρ : Nat → Nat} {z : Value} (G : Gho l s0 D ρ z) {s : State} (hW : s0.WarmedH s.vm) {w : Jvm.Cond} (hw : w ∈ lw_tbl) (hn : wK w = true) (a' : Array Value) : w.before a' s = true := by
  have h0 := G.2.2.2.1 w hw
  have h1 := List.all_eq_true.mp tbl_face w hw
  simp only [Bool.or_eq_true, Bool.and_eq_true] at h1
  rcases h1 with (h1 | h1) | h1
  · exact word_at hW (good_of_word h1) h0
  · have h2 := Cond.onTables_warmFace (T := s) (args' := a') hW h1.1 h1.2 h0
    rwa [State.setVm_self] at h2
  · rw [hn] at h1; cases h1
section PURE
variable {p : Program} {l : Launch} {e : Env} {R : Room} {s : State} {m : MethodId} {args : Array Value} {below : List Frame} {meth : Method} {c : Code} {H : Heap} {locs : List Loc} {cells slots : Nat} {Q : State → Prop}
variable {s0 : State} {D : va_G} {ρ : Nat → Nat} {z : Value} {cc : ByteArray} {own : String} {ini : Bool} {pcs : List Nat} {en : mE} {r : Nat × Instr × Nat × Nat} {L S : List Value} {nL : Nat} {ls : Array Slot} {q9 : Nat × List Value × List Value}
/-- the machine stands at the place pc with these locals and this stack, and comes to Q -/
def KL (p : Program) (l : Launch) (e : Env) (R : Room) (s : State) (m : MethodId) (args : Array Value) (below : List Frame) (meth : Method) (c : Code) (H : Heap) (locs : List Loc) (cells slots : Nat) (Q : State → Prop) (ρ : Nat → Nat) (z : Value) (nL : Nat) (pc : Nat) (L S : List Value) : Prop :=
  ∀ ls : Array Slot, lR ρ z nL ls L → W p l e R s m args below meth c H locs cells slots Q (F0 m pc ls (S.map (cvV ρ z)))
theorem KL.go {pc pc' : Nat} {L S : List Value} (h : pc = pc') (k : KL p l e R s m args below meth c H locs cells slots Q ρ z nL pc L S) : KL p l e R s m args below meth c H locs cells slots Q ρ z nL pc' L S := h ▸ k

set_option maxHeartbeats 4000000 in
theorem ps_iadd (G : Gho l s0 D ρ z) (hW : s0.WarmedH s.vm) (hx : p.tables.exec = Jvm.exec) (hb : c.code = cc) (hown : s.vm.findClass own = some m.cls) (hok : okE cc own ini pcs en r = true) (he : en.1 = .iadd) (hs : pS en L S = some q9)
    (k : KL p l e R s m args below meth c H locs cells slots Q ρ z nL ((pcs[q9.1]?).getD 0) q9.2.1 q9.2.2) : KL p l e R s m args below meth c H locs cells slots Q ρ z nL r.1 L S := by
  obtain ⟨i0, cst, nx, tg⟩ := en
  obtain ⟨pc, raw, len, lk⟩ := r
  dsimp only at he hs k hok ⊢
  subst he
  simp only [okE, Bool.and_eq_true, decide_eq_true_eq] at hok
  obtain ⟨hd, ⟨hn, rfl⟩, rfl⟩ := hok
  intro ls hl
  simp only [pS] at hs
  split at hs
  · cases hs
    simp only [List.map_cons, cvV]
    refine lv_iadd hx hb hd ?_
    have := KL.go hn k ls hl
    simpa only [List.map_cons, cvV] using this
  · cases hs

set_option maxHeartbeats 4000000 in
theorem ps_isub (G : Gho l s0 D ρ z) (hW : s0.WarmedH s.vm) (hx : p.tables.exec = Jvm.exec) (hb : c.code = cc) (hown : s.vm.findClass own = some m.cls) (hok : okE cc own ini pcs en r = true) (he : en.1 = .isub) (hs : pS en L S = some q9)
    (k : KL p l e R s m args below meth c H locs cells slots Q ρ z nL ((pcs[q9.1]?).getD 0) q9.2.1 q9.2.2) : KL p l e R s m args below meth c H locs cells slots Q ρ z nL r.1 L S := by
  obtain ⟨i0, cst, nx, tg⟩ := en
  obtain ⟨pc, raw, len, lk⟩ := r
  dsimp only at he hs k hok ⊢
  subst he
  simp only [okE, Bool.and_eq_true, decide_eq_true_eq] at hok
  obtain ⟨hd, ⟨hn, rfl⟩, rfl⟩ := hok
  intro ls hl
  simp only [pS] at hs
  split at hs
  · cases hs
    simp only [List.map_cons, cvV]
    refine lv_isub hx hb hd ?_
    have := KL.go hn k ls hl
    simpa only [List.map_cons, cvV] using this
  · cases hs

set_option maxHeartbeats 4000000 in
theorem ps_imul (G : Gho l s0 D ρ z) (hW : s0.WarmedH s.vm) (hx : p.tables.exec = Jvm.exec) (hb : c.code = cc) (hown : s.vm.findClass own = some m.cls) (hok : okE cc own ini pcs en r = true) (he : en.1 = .imul) (hs : pS en L S = some q9)
    (k : KL p l e R s m args below meth c H locs cells slots Q ρ z nL ((pcs[q9.1]?).getD 0) q9.2.1 q9.2.2) : KL p l e R s m args below meth c H locs cells slots Q ρ z nL r.1 L S := by
  obtain ⟨i0, cst, nx, tg⟩ := en
  obtain ⟨pc, raw, len, lk⟩ := r
  dsimp only at he hs k hok ⊢
  subst he
  simp only [okE, Bool.and_eq_true, decide_eq_true_eq] at hok
  obtain ⟨hd, ⟨hn, rfl⟩, rfl⟩ := hok
  intro ls hl
  simp only [pS] at hs
  split at hs
  · cases hs
    simp only [List.map_cons, cvV]
    refine lv_imul hx hb hd ?_
    have := KL.go hn k ls hl
    simpa only [List.map_cons, cvV] using this
  · cases hs

set_option maxHeartbeats 4000000 in
theorem ps_iand (G : Gho l s0 D ρ z) (hW : s0.WarmedH s.vm) (hx : p.tables.exec = Jvm.exec) (hb : c.code = cc) (hown : s.vm.findClass own = some m.cls) (hok : okE cc own ini pcs en r = true) (he : en.1 = .iand) (hs : pS en L S = some q9)
    (k : KL p l e R s m args below meth c H locs cells slots Q ρ z nL ((pcs[q9.1]?).getD 0) q9.2.1 q9.2.2) : KL p l e R s m args below meth c H locs cells slots Q ρ z nL r.1 L S := by
  obtain ⟨i0, cst, nx, tg⟩ := en
  obtain ⟨pc, raw, len, lk⟩ := r
  dsimp only at he hs k hok ⊢
  subst he
  simp only [okE, Bool.and_eq_true, decide_eq_true_eq] at hok
  obtain ⟨hd, ⟨hn, rfl⟩, rfl⟩ := hok
  intro ls hl
  simp only [pS] at hs
  split at hs
  · cases hs
    simp only [List.map_cons, cvV]
    refine lv_iand hx hb hd ?_
    have := KL.go hn k ls hl
    simpa only [List.map_cons, cvV] using this
  · cases hs

set_option maxHeartbeats 4000000 in
theorem ps_ior (G : Gho l s0 D ρ z) (hW : s0.WarmedH s.vm) (hx : p.tables.exec = Jvm.exec) (hb : c.code = cc) (hown : s.vm.findClass own = some m.cls) (hok : okE cc own ini pcs en r = true) (he : en.1 = .ior) (hs : pS en L S = some q9)
    (k : KL p l e R s m args below meth c H locs cells slots Q ρ z nL ((pcs[q9.1]?).getD 0) q9.2.1 q9.2.2) : KL p l e R s m args below meth c H locs cells slots Q ρ z nL r.1 L S := by
  obtain ⟨i0, cst, nx, tg⟩ := en
  obtain ⟨pc, raw, len, lk⟩ := r
  dsimp only at he hs k hok ⊢
  subst he
  simp only [okE, Bool.and_eq_true, decide_eq_true_eq] at hok
  obtain ⟨hd, ⟨hn, rfl⟩, rfl⟩ := hok
  intro ls hl
  simp only [pS] at hs
  split at hs
  · cases hs
    simp only [List.map_cons, cvV]
    refine lv_ior hx hb hd ?_
    have := KL.go hn k ls hl
    simpa only [List.map_cons, cvV] using this
  · cases hs

set_option maxHeartbeats 4000000 in
theorem ps_ixor (G : Gho l s0 D ρ z) (hW : s0.WarmedH s.vm) (hx : p.tables.exec = Jvm.exec) (hb : c.code = cc) (hown : s.vm.findClass own = some m.cls) (hok : okE cc own ini pcs en r = true) (he : en.1 = .ixor) (hs : pS en L S = some q9)
    (k : KL p l e R s m args below meth c H locs cells slots Q ρ z nL ((pcs[q9.1]?).getD 0) q9.2.1 q9.2.2) : KL p l e R s m args below meth c H locs cells slots Q ρ z nL r.1 L S := by
  obtain ⟨i0, cst, nx, tg⟩ := en
  obtain ⟨pc, raw, len, lk⟩ := r
  dsimp only at he hs k hok ⊢
  subst he
  simp only [okE, Bool.and_eq_true, decide_eq_true_eq] at hok
  obtain ⟨hd, ⟨hn, rfl⟩, rfl⟩ := hok
  intro ls hl
  simp only [pS] at hs
  split at hs
  · cases hs
    simp only [List.map_cons, cvV]
    refine lv_ixor hx hb hd ?_
    have := KL.go hn k ls hl
    simpa only [List.map_cons, cvV] using this
  · cases hs

set_option maxHeartbeats 4000000 in
theorem ps_ishl (G : Gho l s0 D ρ z) (hW : s0.WarmedH s.vm) (hx : p.tables.exec = Jvm.exec) (hb : c.code = cc) (hown : s.vm.findClass own = some m.cls) (hok : okE cc own ini pcs en r = true) (he : en.1 = .ishl) (hs : pS en L S = some q9)
    (k : KL p l e R s m args below meth c H locs cells slots Q ρ z nL ((pcs[q9.1]?).getD 0) q9.2.1 q9.2.2) : KL p l e R s m args below meth c H locs cells slots Q ρ z nL r.1 L S := by
  obtain ⟨i0, cst, nx, tg⟩ := en
  obtain ⟨pc, raw, len, lk⟩ := r
  dsimp only at he hs k hok ⊢
  subst he
  simp only [okE, Bool.and_eq_true, decide_eq_true_eq] at hok
  obtain ⟨hd, ⟨hn, rfl⟩, rfl⟩ := hok
  intro ls hl
  simp only [pS] at hs
  split at hs
  · cases hs
    simp only [List.map_cons, cvV]
    refine lv_ishl hx hb hd ?_
    have := KL.go hn k ls hl
    simpa only [List.map_cons, cvV] using this
  · cases hs

set_option maxHeartbeats 4000000 in
theorem ps_ishr (G : Gho l s0 D ρ z) (hW : s0.WarmedH s.vm) (hx : p.tables.exec = Jvm.exec) (hb : c.code = cc) (hown : s.vm.findClass own = some m.cls) (hok : okE cc own ini pcs en r = true) (he : en.1 = .ishr) (hs : pS en L S = some q9)
    (k : KL p l e R s m args below meth c H locs cells slots Q ρ z nL ((pcs[q9.1]?).getD 0) q9.2.1 q9.2.2) : KL p l e R s m args below meth c H locs cells slots Q ρ z nL r.1 L S := by
  obtain ⟨i0, cst, nx, tg⟩ := en
  obtain ⟨pc, raw, len, lk⟩ := r
  dsimp only at he hs k hok ⊢
  subst he
  simp only [okE, Bool.and_eq_true, decide_eq_true_eq] at hok
  obtain ⟨hd, ⟨hn, rfl⟩, rfl⟩ := hok
  intro ls hl
  simp only [pS] at hs
  split at hs
  · cases hs
    simp only [List.map_cons, cvV]
    refine lv_ishr hx hb hd ?_
    have := KL.go hn k ls hl
    simpa only [List.map_cons, cvV] using this
  · cases hs

set_option maxHeartbeats 4000000 in
theorem ps_ineg (G : Gho l s0 D ρ z) (hW : s0.WarmedH s.vm) (hx : p.tables.exec = Jvm.exec) (hb : c.code = cc) (hown : s.vm.findClass own = some m.cls) (hok : okE cc own ini pcs en r = true) (he : en.1 = .ineg) (hs : pS en L S = some q9)
    (k : KL p l e R s m args below meth c H locs cells slots Q ρ z nL ((pcs[q9.1]?).getD 0) q9.2.1 q9.2.2) : KL p l e R s m args below meth c H locs cells slots Q ρ z nL r.1 L S := by
  obtain ⟨i0, cst, nx, tg⟩ := en
  obtain ⟨pc, raw, len, lk⟩ := r
  dsimp only at he hs k hok ⊢
  subst he
  simp only [okE, Bool.and_eq_true, decide_eq_true_eq] at hok
  obtain ⟨hd, ⟨hn, rfl⟩, rfl⟩ := hok
  intro ls hl
  simp only [pS] at hs
  split at hs
  · cases hs
    simp only [List.map_cons, cvV]
    refine lv_ineg hx hb hd ?_
    have := KL.go hn k ls hl
    simpa only [List.map_cons, cvV] using this
  · cases hs

set_option maxHeartbeats 4000000 in
theorem ps_idiv (G : Gho l s0 D ρ z) (hW : s0.WarmedH s.vm) (hx : p.tables.exec = Jvm.exec) (hb : c.code = cc) (hown : s.vm.findClass own = some m.cls) (hok : okE cc own ini pcs en r = true) (he : en.1 = .idiv) (hs : pS en L S = some q9)
    (k : KL p l e R s m args below meth c H locs cells slots Q ρ z nL ((pcs[q9.1]?).getD 0) q9.2.1 q9.2.2) : KL p l e R s m args below meth c H locs cells slots Q ρ z nL r.1 L S := by
  obtain ⟨i0, cst, nx, tg⟩ := en
  obtain ⟨pc, raw, len, lk⟩ := r
  dsimp only at he hs k hok ⊢
  subst he
  simp only [okE, Bool.and_eq_true, decide_eq_true_eq] at hok
  obtain ⟨hd, ⟨hn, rfl⟩, rfl⟩ := hok
  intro ls hl
  simp only [pS] at hs
  split at hs
  · split at hs
    · cases hs
    · rename_i hne
      cases hs
      simp only [List.map_cons, cvV]
      refine lv_idiv hx hb hd hne ?_
      have := KL.go hn k ls hl
      simpa only [List.map_cons, cvV] using this
  · cases hs

set_option maxHeartbeats 4000000 in
theorem ps_irem (G : Gho l s0 D ρ z) (hW : s0.WarmedH s.vm) (hx : p.tables.exec = Jvm.exec) (hb : c.code = cc) (hown : s.vm.findClass own = some m.cls) (hok : okE cc own ini pcs en r = true) (he : en.1 = .irem) (hs : pS en L S = some q9)
    (k : KL p l e R s m args below meth c H locs cells slots Q ρ z nL ((pcs[q9.1]?).getD 0) q9.2.1 q9.2.2) : KL p l e R s m args below meth c H locs cells slots Q ρ z nL r.1 L S := by
  obtain ⟨i0, cst, nx, tg⟩ := en
  obtain ⟨pc, raw, len, lk⟩ := r
  dsimp only at he hs k hok ⊢
  subst he
  simp only [okE, Bool.and_eq_true, decide_eq_true_eq] at hok
  obtain ⟨hd, ⟨hn, rfl⟩, rfl⟩ := hok
  intro ls hl
  simp only [pS] at hs
  split at hs
  · split at hs
    · cases hs
    · rename_i hne
      cases hs
      simp only [List.map_cons, cvV]
      refine lv_irem hx hb hd hne ?_
      have := KL.go hn k ls hl
      simpa only [List.map_cons, cvV] using this
  · cases hs

set_option maxHeartbeats 4000000 in
theorem ps_i2b (G : Gho l s0 D ρ z) (hW : s0.WarmedH s.vm) (hx : p.tables.exec = Jvm.exec) (hb : c.code = cc) (hown : s.vm.findClass own = some m.cls) (hok : okE cc own ini pcs en r = true) (he : en.1 = .i2b) (hs : pS en L S = some q9)
    (k : KL p l e R s m args below meth c H locs cells slots Q ρ z nL ((pcs[q9.1]?).getD 0) q9.2.1 q9.2.2) : KL p l e R s m args below meth c H locs cells slots Q ρ z nL r.1 L S := by
  obtain ⟨i0, cst, nx, tg⟩ := en
  obtain ⟨pc, raw, len, lk⟩ := r
  dsimp only at he hs k hok ⊢
  subst he
  simp only [okE, Bool.and_eq_true, decide_eq_true_eq] at hok
  obtain ⟨hd, ⟨hn, rfl⟩, rfl⟩ := hok
  intro ls hl
  simp only [pS] at hs
  split at hs
  · cases hs
    simp only [List.map_cons, cvV]
    refine lv_i2b hx hb hd rfl ?_
    have := KL.go hn k ls hl
    simpa only [List.map_cons, cvV] using this
  · cases hs

set_option maxHeartbeats 4000000 in
theorem ps_i2c (G : Gho l s0 D ρ z) (hW : s0.WarmedH s.vm) (hx : p.tables.exec = Jvm.exec) (hb : c.code = cc) (hown : s.vm.findClass own = some m.cls) (hok : okE cc own ini pcs en r = true) (he : en.1 = .i2c) (hs : pS en L S = some q9)
    (k : KL p l e R s m args below meth c H locs cells slots Q ρ z nL ((pcs[q9.1]?).getD 0) q9.2.1 q9.2.2) : KL p l e R s m args below meth c H locs cells slots Q ρ z nL r.1 L S := by
  obtain ⟨i0, cst, nx, tg⟩ := en
  obtain ⟨pc, raw, len, lk⟩ := r
  dsimp only at he hs k hok ⊢
  subst he
  simp only [okE, Bool.and_eq_true, decide_eq_true_eq] at hok
  obtain ⟨hd, ⟨hn, rfl⟩, rfl⟩ := hok
  intro ls hl
  simp only [pS] at hs
  split at hs
  · cases hs
    simp only [List.map_cons, cvV]
    refine lv_i2c hx hb hd rfl ?_
    have := KL.go hn k ls hl
    simpa only [List.map_cons, cvV] using this
  · cases hs

set_option maxHeartbeats 4000000 in
theorem ps_i2l (G : Gho l s0 D ρ z) (hW : s0.WarmedH s.vm) (hx : p.tables.exec = Jvm.exec) (hb : c.code = cc) (hown : s.vm.findClass own = some m.cls) (hok : okE cc own ini pcs en r = true) (he : en.1 = .i2l) (hs : pS en L S = some q9)
    (k : KL p l e R s m args below meth c H locs cells slots Q ρ z nL ((pcs[q9.1]?).getD 0) q9.2.1 q9.2.2) : KL p l e R s m args below meth c H locs cells slots Q ρ z nL r.1 L S := by
  obtain ⟨i0, cst, nx, tg⟩ := en
  obtain ⟨pc, raw, len, lk⟩ := r
  dsimp only at he hs k hok ⊢
  subst he
  simp only [okE, Bool.and_eq_true, decide_eq_true_eq] at hok
  obtain ⟨hd, ⟨hn, rfl⟩, rfl⟩ := hok
  intro ls hl
  simp only [pS] at hs
  split at hs
  · cases hs
    simp only [List.map_cons, cvV]
    refine lv_i2l hx hb hd rfl ?_
    have := KL.go hn k ls hl
    simpa only [List.map_cons, cvV] using this
  · cases hs

set_option maxHeartbeats 4000000 in
theorem ps_iushr (G : Gho l s0 D ρ z) (hW : s0.WarmedH s.vm) (hx : p.tables.exec = Jvm.exec) (hb : c.code = cc) (hown : s.vm.findClass own = some m.cls) (hok : okE cc own ini pcs en r = true) (he : en.1 = .iushr) (hs : pS en L S = some q9)
    (k : KL p l e R s m args below meth c H locs cells slots Q ρ z nL ((pcs[q9.1]?).getD 0) q9.2.1 q9.2.2) : KL p l e R s m args below meth c H locs cells slots Q ρ z nL r.1 L S := by
  obtain ⟨i0, cst, nx, tg⟩ := en
  obtain ⟨pc, raw, len, lk⟩ := r
  dsimp only at he hs k hok ⊢
  subst he
  simp only [okE, Bool.and_eq_true, decide_eq_true_eq] at hok
  obtain ⟨hd, ⟨hn, rfl⟩, rfl⟩ := hok
  intro ls hl
  simp only [pS] at hs
  split at hs
  · cases hs
    simp only [List.map_cons, cvV]
    refine lv_iushr hx hb hd rfl ?_
    have := KL.go hn k ls hl
    simpa only [List.map_cons, cvV] using this
  · cases hs

set_option maxHeartbeats 4000000 in
theorem ps_lcmp (G : Gho l s0 D ρ z) (hW : s0.WarmedH s.vm) (hx : p.tables.exec = Jvm.exec) (hb : c.code = cc) (hown : s.vm.findClass own = some m.cls) (hok : okE cc own ini pcs en r = true) (he : en.1 = .lcmp) (hs : pS en L S = some q9)
    (k : KL p l e R s m args below meth c H locs cells slots Q ρ z nL ((pcs[q9.1]?).getD 0) q9.2.1 q9.2.2) : KL p l e R s m args below meth c H locs cells slots Q ρ z nL r.1 L S := by
  obtain ⟨i0, cst, nx, tg⟩ := en
  obtain ⟨pc, raw, len, lk⟩ := r
  dsimp only at he hs k hok ⊢
  subst he
  simp only [okE, Bool.and_eq_true, decide_eq_true_eq] at hok
  obtain ⟨hd, ⟨hn, rfl⟩, rfl⟩ := hok
  intro ls hl
  simp only [pS] at hs
  split at hs
  · cases hs
    simp only [List.map_cons, cvV]
    refine W.lcmp hx hb hd ?_
    have := KL.go hn k ls hl
    simpa only [List.map_cons, cvV] using this
  · cases hs

set_option maxHeartbeats 4000000 in
theorem ps_dup (G : Gho l s0 D ρ z) (hW : s0.WarmedH s.vm) (hx : p.tables.exec = Jvm.exec) (hb : c.code = cc) (hown : s.vm.findClass own = some m.cls) (hok : okE cc own ini pcs en r = true) (he : en.1 = .dup) (hs : pS en L S = some q9)
    (k : KL p l e R s m args below meth c H locs cells slots Q ρ z nL ((pcs[q9.1]?).getD 0) q9.2.1 q9.2.2) : KL p l e R s m args below meth c H locs cells slots Q ρ z nL r.1 L S := by
  obtain ⟨i0, cst, nx, tg⟩ := en
  obtain ⟨pc, raw, len, lk⟩ := r
  dsimp only at he hs k hok ⊢
  subst he
  simp only [okE, Bool.and_eq_true, decide_eq_true_eq] at hok
  obtain ⟨hd, ⟨hn, rfl⟩, rfl⟩ := hok
  intro ls hl
  simp only [pS] at hs
  split at hs
  · cases hs
    have := KL.go hn k ls hl
    simp only [List.map_cons] at this ⊢
    exact lv_dup hx hb hd rfl this
  · cases hs
    have := KL.go hn k ls hl
    simp only [List.map_cons] at this ⊢
    exact lv_dup hx hb hd (cat_cv G.2.1 _) this
  · cases hs

set_option maxHeartbeats 4000000 in
theorem ps_pop (G : Gho l s0 D ρ z) (hW : s0.WarmedH s.vm) (hx : p.tables.exec = Jvm.exec) (hb : c.code = cc) (hown : s.vm.findClass own = some m.cls) (hok : okE cc own ini pcs en r = true) (he : en.1 = .pop) (hs : pS en L S = some q9)
    (k : KL p l e R s m args below meth c H locs cells slots Q ρ z nL ((pcs[q9.1]?).getD 0) q9.2.1 q9.2.2) : KL p l e R s m args below meth c H locs cells slots Q ρ z nL r.1 L S := by
  obtain ⟨i0, cst, nx, tg⟩ := en
  obtain ⟨pc, raw, len, lk⟩ := r
  dsimp only at he hs k hok ⊢
  subst he
  simp only [okE, Bool.and_eq_true, decide_eq_true_eq] at hok
  obtain ⟨hd, ⟨hn, rfl⟩, rfl⟩ := hok
  intro ls hl
  simp only [pS] at hs
  split at hs
  · cases hs
    have := KL.go hn k ls hl
    simp only [List.map_cons] at this ⊢
    exact lv_pop hx hb hd rfl this
  · cases hs
    have := KL.go hn k ls hl
    simp only [List.map_cons] at this ⊢
    exact lv_pop hx hb hd (cat_cv G.2.1 _) this
  · cases hs

set_option maxHeartbeats 4000000 in
theorem ps_dup_x1 (G : Gho l s0 D ρ z) (hW : s0.WarmedH s.vm) (hx : p.tables.exec = Jvm.exec) (hb : c.code = cc) (hown : s.vm.findClass own = some m.cls) (hok : okE cc own ini pcs en r = true) (he : en.1 = .dup_x1) (hs : pS en L S = some q9)
    (k : KL p l e R s m args below meth c H locs cells slots Q ρ z nL ((pcs[q9.1]?).getD 0) q9.2.1 q9.2.2) : KL p l e R s m args below meth c H locs cells slots Q ρ z nL r.1 L S := by
  obtain ⟨i0, cst, nx, tg⟩ := en
  obtain ⟨pc, raw, len, lk⟩ := r
  dsimp only at he hs k hok ⊢
  subst he
  simp only [okE, Bool.and_eq_true, decide_eq_true_eq] at hok
  obtain ⟨hd, ⟨hn, rfl⟩, rfl⟩ := hok
  intro ls hl
  simp only [pS] at hs
  split at hs
  · cases hs
    have := KL.go hn k ls hl
    simp only [List.map_cons] at this ⊢
    exact lv_dup_x1 hx hb hd rfl rfl this
  · cases hs
    have := KL.go hn k ls hl
    simp only [List.map_cons] at this ⊢
    exact lv_dup_x1 hx hb hd rfl (cat_cv G.2.1 _) this
  · cases hs

set_option maxHeartbeats 4000000 in
theorem ps_dup2 (G : Gho l s0 D ρ z) (hW : s0.WarmedH s.vm) (hx : p.tables.exec = Jvm.exec) (hb : c.code = cc) (hown : s.vm.findClass own = some m.cls) (hok : okE cc own ini pcs en r = true) (he : en.1 = .dup2) (hs : pS en L S = some q9)
    (k : KL p l e R s m args below meth c H locs cells slots Q ρ z nL ((pcs[q9.1]?).getD 0) q9.2.1 q9.2.2) : KL p l e R s m args below meth c H locs cells slots Q ρ z nL r.1 L S := by
  obtain ⟨i0, cst, nx, tg⟩ := en
  obtain ⟨pc, raw, len, lk⟩ := r
  dsimp only at he hs k hok ⊢
  subst he
  simp only [okE, Bool.and_eq_true, decide_eq_true_eq] at hok
  obtain ⟨hd, ⟨hn, rfl⟩, rfl⟩ := hok
  intro ls hl
  simp only [pS] at hs
  split at hs
  · cases hs
    have := KL.go hn k ls hl
    simp only [List.map_cons] at this ⊢
    exact lv_dup2_11 hx hb hd rfl (cat_cv G.2.1 _) this
  · cases hs

set_option maxHeartbeats 4000000 in
theorem ps_goto (G : Gho l s0 D ρ z) (hW : s0.WarmedH s.vm) (hx : p.tables.exec = Jvm.exec) (hb : c.code = cc) (hown : s.vm.findClass own = some m.cls) (hok : okE cc own ini pcs en r = true) {o9 : Int} (he : en.1 = .goto o9) (hs : pS en L S = some q9)
    (k : KL p l e R s m args below meth c H locs cells slots Q ρ z nL ((pcs[q9.1]?).getD 0) q9.2.1 q9.2.2) : KL p l e R s m args below meth c H locs cells slots Q ρ z nL r.1 L S := by
  obtain ⟨i0, cst, nx, tg⟩ := en
  obtain ⟨pc, raw, len, lk⟩ := r
  dsimp only at he hs k hok ⊢
  subst he
  simp only [okE, Bool.and_eq_true, decide_eq_true_eq] at hok
  obtain ⟨hd, rfl, rfl⟩ := hok
  intro ls hl
  simp only [pS] at hs
  cases hs
  exact lv_goto (tgt := (pcs[tg]?).getD 0) hx hb hd (by simp only [tgE, Int.toNat_natCast]; omega) (k ls hl)

set_option maxHeartbeats 4000000 in
theorem ps_iconst (G : Gho l s0 D ρ z) (hW : s0.WarmedH s.vm) (hx : p.tables.exec = Jvm.exec) (hb : c.code = cc) (hown : s.vm.findClass own = some m.cls) (hok : okE cc own ini pcs en r = true) {o9 : Int} (he : en.1 = .iconst o9) (hs : pS en L S = some q9)
    (k : KL p l e R s m args below meth c H locs cells slots Q ρ z nL ((pcs[q9.1]?).getD 0) q9.2.1 q9.2.2) : KL p l e R s m args below meth c H locs cells slots Q ρ z nL r.1 L S := by
  obtain ⟨i0, cst, nx, tg⟩ := en
  obtain ⟨pc, raw, len, lk⟩ := r
  dsimp only at he hs k hok ⊢
  subst he
  simp only [okE, Bool.and_eq_true, decide_eq_true_eq] at hok
  obtain ⟨hd, hn, hr⟩ := hok
  intro ls hl
  simp only [pS] at hs
  cases hs
  have := KL.go hn k ls hl
  simp only [List.map_cons, cvV] at this
  simp only [Bool.or_eq_true, Bool.and_eq_true, decide_eq_true_eq] at hr
  rcases hr with ((⟨rfl, rfl⟩ | ⟨⟨rfl, rfl⟩, h9⟩) | ⟨⟨rfl, rfl⟩, h9⟩) | hr
  · exact lv_iconst hx hb hd (Int32.ofInt_toInt _) this
  · exact lv_bipush hx hb hd h9 this
  · exact lv_sipush hx hb hd h9 this
  · split at hr
    · rename_i q hq
      have hw := word_on G hW (subl_mem _ _ CT_ok _ (List.mem_map_of_mem (List.mem_of_getElem? hq))) rfl args
      simp only [Bool.and_eq_true, Bool.or_eq_true, decide_eq_true_eq] at hr
      obtain ⟨⟨rfl, rfl⟩, ⟨rfl, rfl⟩ | ⟨rfl, rfl⟩⟩ := hr
      · exact lv_ldc hx hb hown hw hd this
      · exact lv_ldcw hx hb hown hw hd this
    · cases hr

set_option maxHeartbeats 4000000 in
theorem ps_aconst_null (G : Gho l s0 D ρ z) (hW : s0.WarmedH s.vm) (hx : p.tables.exec = Jvm.exec) (hb : c.code = cc) (hown : s.vm.findClass own = some m.cls) (hok : okE cc own ini pcs en r = true) (he : en.1 = .aconst_null) (hs : pS en L S = some q9)
    (k : KL p l e R s m args below meth c H locs cells slots Q ρ z nL ((pcs[q9.1]?).getD 0) q9.2.1 q9.2.2) : KL p l e R s m args below meth c H locs cells slots Q ρ z nL r.1 L S := by
  obtain ⟨i0, cst, nx, tg⟩ := en
  obtain ⟨pc, raw, len, lk⟩ := r
  dsimp only at he hs k hok ⊢
  subst he
  simp only [okE, Bool.and_eq_true, decide_eq_true_eq] at hok
  obtain ⟨hd, ⟨hn, rfl⟩, rfl⟩ := hok
  intro ls hl
  simp only [pS] at hs
  cases hs
  have := KL.go hn k ls hl
  simp only [List.map_cons, cvV] at this
  exact lv_null hx hb hd this

set_option maxHeartbeats 4000000 in
theorem ps_iload (G : Gho l s0 D ρ z) (hW : s0.WarmedH s.vm) (hx : p.tables.exec = Jvm.exec) (hb : c.code = cc) (hown : s.vm.findClass own = some m.cls) (hok : okE cc own ini pcs en r = true) {k9 : Nat} (he : en.1 = .iload k9) (hs : pS en L S = some q9)
    (k : KL p l e R s m args below meth c H locs cells slots Q ρ z nL ((pcs[q9.1]?).getD 0) q9.2.1 q9.2.2) : KL p l e R s m args below meth c H locs cells slots Q ρ z nL r.1 L S := by
  obtain ⟨i0, cst, nx, tg⟩ := en
  obtain ⟨pc, raw, len, lk⟩ := r
  dsimp only at he hs k hok ⊢
  subst he
  simp only [okE, Bool.and_eq_true, decide_eq_true_eq] at hok
  obtain ⟨hd, hn, hr⟩ := hok
  intro ls hl
  simp only [pS] at hs
  split at hs
  · rename_i x hx9
    cases hs
    have := KL.go hn k ls hl
    simp only [List.map_cons, cvV] at this
    have h9 := hl.2.2.2 k9 _ hx9 (by simp) rfl
    simp only [Bool.or_eq_true, Bool.and_eq_true, decide_eq_true_eq] at hr
    rcases hr with ⟨rfl, rfl⟩ | ⟨⟨h4, rfl⟩, rfl⟩
    · exact lv_iload hx hb hd h9 this
    · exact lv_iload_n (i := k9) hx hb hd (Nat.mod_eq_of_lt h4) h9 this
  · cases hs

set_option maxHeartbeats 4000000 in
theorem ps_aload (G : Gho l s0 D ρ z) (hW : s0.WarmedH s.vm) (hx : p.tables.exec = Jvm.exec) (hb : c.code = cc) (hown : s.vm.findClass own = some m.cls) (hok : okE cc own ini pcs en r = true) {k9 : Nat} (he : en.1 = .aload k9) (hs : pS en L S = some q9)
    (k : KL p l e R s m args below meth c H locs cells slots Q ρ z nL ((pcs[q9.1]?).getD 0) q9.2.1 q9.2.2) : KL p l e R s m args below meth c H locs cells slots Q ρ z nL r.1 L S := by
  obtain ⟨i0, cst, nx, tg⟩ := en
  obtain ⟨pc, raw, len, lk⟩ := r
  dsimp only at he hs k hok ⊢
  subst he
  simp only [okE, Bool.and_eq_true, decide_eq_true_eq] at hok
  obtain ⟨hd, hn, hr⟩ := hok
  intro ls hl
  simp only [Bool.or_eq_true, Bool.and_eq_true, decide_eq_true_eq] at hr
  have key : ∀ v : Value, L[k9]? = some v → ((∃ x, v = .ref x) ∨ v = .null) → KL p l e R s m args below meth c H locs cells slots Q ρ z nL (pc + len) L (v :: S) → W p l e R s m args below meth c H locs cells slots Q (F0 m pc ls (S.map (cvV ρ z))) := by
    intro v hv hv2 k2
    have h9 := hl.2.2.2 k9 v hv (by rcases hv2 with ⟨x, rfl⟩ | rfl <;> simp) (by rcases hv2 with ⟨x, rfl⟩ | rfl <;> rfl)
    have k3 := k2 ls hl
    simp only [List.map_cons] at k3
    have hc : cvV ρ z v = .null ∨ ∃ q, cvV ρ z v = .ref q := by
      rcases hv2 with ⟨x, rfl⟩ | rfl
      · simp only [cvV]; split
        · exact G.2.1
        · exact Or.inr ⟨_, rfl⟩
      · exact Or.inl rfl
    rcases hc with hc | ⟨q, hc⟩ <;> rw [hc] at h9 k3 <;> rcases hr with ⟨rfl, rfl⟩ | ⟨⟨h4, rfl⟩, rfl⟩
    · exact lv_aloadN hx hb hd h9 k3
    · exact lv_aload_nN (i := k9) hx hb hd (Nat.mod_eq_of_lt h4) h9 k3
    · exact lv_aload hx hb hd h9 k3
    · exact lv_aload_n (i := k9) hx hb hd (Nat.mod_eq_of_lt h4) h9 k3
  simp only [pS] at hs
  split at hs
  · rename_i x hx9
    cases hs
    exact key _ hx9 (Or.inl ⟨_, rfl⟩) (KL.go hn k)
  · rename_i hx9
    cases hs
    exact key _ hx9 (Or.inr rfl) (KL.go hn k)
  · cases hs

set_option maxHeartbeats 4000000 in
theorem ps_istore (G : Gho l s0 D ρ z) (hW : s0.WarmedH s.vm) (hx : p.tables.exec = Jvm.exec) (hb : c.code = cc) (hown : s.vm.findClass own = some m.cls) (hok : okE cc own ini pcs en r = true) {k9 : Nat} (he : en.1 = .istore k9) (hk9 : k9 < nL) (hs : pS en L S = some q9)
    (k : KL p l e R s m args below meth c H locs cells slots Q ρ z nL ((pcs[q9.1]?).getD 0) q9.2.1 q9.2.2) : KL p l e R s m args below meth c H locs cells slots Q ρ z nL r.1 L S := by
  obtain ⟨i0, cst, nx, tg⟩ := en
  obtain ⟨pc, raw, len, lk⟩ := r
  dsimp only at he hs k hok ⊢
  subst he
  simp only [okE, Bool.and_eq_true, decide_eq_true_eq] at hok
  obtain ⟨hd, hn, hr⟩ := hok
  intro ls hl
  simp only [pS] at hs
  split at hs
  · cases hs
    simp only [Bool.or_eq_true, Bool.and_eq_true, decide_eq_true_eq] at hr
    simp only [List.map_cons, cvV]
    have k2 := KL.go hn k
    rcases hr with ⟨rfl, rfl⟩ | ⟨⟨h4, rfl⟩, rfl⟩
    · exact lv_istore hx hb hd (lR_has hl) hk9 rfl (fun ls' h' => k2 ls' (lR_set G.2.1 hl.2.1 h' rfl))
    · exact lv_istore_n (i := k9) hx hb hd (Nat.mod_eq_of_lt h4) (lR_has hl) hk9 rfl (fun ls' h' => k2 ls' (lR_set G.2.1 hl.2.1 h' rfl))
  · cases hs

set_option maxHeartbeats 4000000 in
theorem ps_astore (G : Gho l s0 D ρ z) (hW : s0.WarmedH s.vm) (hx : p.tables.exec = Jvm.exec) (hb : c.code = cc) (hown : s.vm.findClass own = some m.cls) (hok : okE cc own ini pcs en r = true) {k9 : Nat} (he : en.1 = .astore k9) (hk9 : k9 < nL) (hs : pS en L S = some q9)
    (k : KL p l e R s m args below meth c H locs cells slots Q ρ z nL ((pcs[q9.1]?).getD 0) q9.2.1 q9.2.2) : KL p l e R s m args below meth c H locs cells slots Q ρ z nL r.1 L S := by
  obtain ⟨i0, cst, nx, tg⟩ := en
  obtain ⟨pc, raw, len, lk⟩ := r
  dsimp only at he hs k hok ⊢
  subst he
  simp only [okE, Bool.and_eq_true, decide_eq_true_eq] at hok
  obtain ⟨hd, hn, hr⟩ := hok
  intro ls hl
  simp only [pS] at hs
  split at hs
  · rename_i x S'
    cases hs
    simp only [Bool.or_eq_true, Bool.and_eq_true, decide_eq_true_eq] at hr
    have k2 := KL.go hn k
    have hc : cvV ρ z (.ref x) = .null ∨ ∃ q, cvV ρ z (.ref x) = .ref q := by
      simp only [cvV]; split
      · exact G.2.1
      · exact Or.inr ⟨_, rfl⟩
    simp only [List.map_cons]
    rcases hc with hc | ⟨q, hc⟩ <;> rw [hc] <;> rcases hr with ⟨rfl, rfl⟩ | ⟨⟨h4, rfl⟩, rfl⟩
    · exact lv_astoreN hx hb hd (lR_has hl) hk9 rfl (fun ls' h' => k2 ls' (lR_set G.2.1 hl.2.1 h' (by rw [hc])))
    · exact lv_astore_nN (i := k9) hx hb hd (Nat.mod_eq_of_lt h4) (lR_has hl) hk9 rfl (fun ls' h' => k2 ls' (lR_set G.2.1 hl.2.1 h' (by rw [hc])))
    · exact lv_astore hx hb hd (lR_has hl) hk9 rfl (fun ls' h' => k2 ls' (lR_set G.2.1 hl.2.1 h' (by rw [hc])))
    · exact lv_astore_n (i := k9) hx hb hd (Nat.mod_eq_of_lt h4) (lR_has hl) hk9 rfl (fun ls' h' => k2 ls' (lR_set G.2.1 hl.2.1 h' (by rw [hc])))
  · cases hs

set_option maxHeartbeats 4000000 in
theorem ps_iinc (G : Gho l s0 D ρ z) (hW : s0.WarmedH s.vm) (hx : p.tables.exec = Jvm.exec) (hb : c.code = cc) (hown : s.vm.findClass own = some m.cls) (hok : okE cc own ini pcs en r = true) {k9 : Nat} {o9 : Int} (he : en.1 = .iinc k9 o9) (hs : pS en L S = some q9)
    (k : KL p l e R s m args below meth c H locs cells slots Q ρ z nL ((pcs[q9.1]?).getD 0) q9.2.1 q9.2.2) : KL p l e R s m args below meth c H locs cells slots Q ρ z nL r.1 L S := by
  obtain ⟨i0, cst, nx, tg⟩ := en
  obtain ⟨pc, raw, len, lk⟩ := r
  dsimp only at he hs k hok ⊢
  subst he
  simp only [okE, Bool.and_eq_true, decide_eq_true_eq] at hok
  obtain ⟨hd, ⟨hn, rfl⟩, rfl⟩ := hok
  intro ls hl
  simp only [pS] at hs
  split at hs
  · rename_i x hx9
    cases hs
    have k2 := KL.go hn k
    have hk9 : k9 < nL := by
      have := (List.getElem?_eq_some_iff.mp hx9).1
      rwa [hl.2.1] at this
    have h9 : (k9, Value.int x) ∈ lRl ρ z L := List.mem_filterMap.mpr ⟨k9, List.mem_range.mpr (by rw [hl.2.1]; exact hk9), by simp [hx9, cvV, Value.category]⟩
    obtain ⟨j, hj⟩ := List.getElem?_of_mem h9
    exact lv_iinc hx hb hd (lR_has hl) hj (by rw [Int32.ofInt_toInt]) hk9 rfl (fun ls' h' => k2 ls' (lR_set G.2.1 hl.2.1 h' rfl))
  · cases hs

set_option maxHeartbeats 4000000 in
theorem ps_ldc (G : Gho l s0 D ρ z) (hW : s0.WarmedH s.vm) (hx : p.tables.exec = Jvm.exec) (hb : c.code = cc) (hown : s.vm.findClass own = some m.cls) (hok : okE cc own ini pcs en r = true) {k9 : Nat} (he : en.1 = .ldc k9) (h500 : 2 * k9 + 2 ≠ 999) (hs : pS en L S = some q9)
    (k : KL p l e R s m args below meth c H locs cells slots Q ρ z nL ((pcs[q9.1]?).getD 0) q9.2.1 q9.2.2) : KL p l e R s m args below meth c H locs cells slots Q ρ z nL r.1 L S := by
  obtain ⟨i0, cst, nx, tg⟩ := en
  obtain ⟨pc, raw, len, lk⟩ := r
  dsimp only at he hs k hok ⊢
  subst he
  simp only [okE, Bool.and_eq_true, decide_eq_true_eq] at hok
  obtain ⟨hd, hn, hr⟩ := hok
  intro ls hl
  simp only [pS] at hs
  cases hs
  have := KL.go hn k ls hl
  simp only [List.map_cons, cvV, if_neg h500] at this
  split at hr
  · rename_i q hq
    have hR := vk_R.warm hW (G.2.2.2.2.2.1 k9 q hq)
    simp only [Bool.or_eq_true, Bool.and_eq_true, decide_eq_true_eq] at hr
    obtain ⟨rfl, ⟨rfl, rfl⟩ | ⟨rfl, rfl⟩⟩ := hr
    · exact va_ldcS hx hb hown hR hd this
    · intro T hT X
      obtain ⟨t, a1, b1⟩ := this T hT X
      exact ⟨t, X.ldcStringW hx hown hR.1 hR.2 (g := F0 m pc ls (S.map (cvV ρ z))) rfl (by rw [hb]; exact hd) t a1, b1⟩
  · cases hr

set_option maxHeartbeats 4000000 in
theorem ps_getstatic (G : Gho l s0 D ρ z) (hW : s0.WarmedH s.vm) (hx : p.tables.exec = Jvm.exec) (hb : c.code = cc) (hown : s.vm.findClass own = some m.cls) (hok : okE cc own ini pcs en r = true) {k9 : Nat} (he : en.1 = .getstatic k9) (hS : va_S (fun q => s0.heap.size ≤ q) s.heap H locs) (hold : ∀ q, q < s0.heap.size → s.heap[q]? = s0.heap[q]?) (hL1 : (Cond.fieldLink "java/lang/String" 38 "java/lang/String" "COMPACT_STRINGS" "Z").before args s = true) (hL2 : (Cond.fieldLink "java/lang/String" 1053 "jdk/internal/util/Preconditions" "SIOOBE_FORMATTER" "Ljava/util/function/BiFunction;").before args s = true) (hs : pS en L S = some q9)
    (k : KL p l e R s m args below meth c H locs cells slots Q ρ z nL ((pcs[q9.1]?).getD 0) q9.2.1 q9.2.2) : KL p l e R s m args below meth c H locs cells slots Q ρ z nL r.1 L S := by
  obtain ⟨i0, cst, nx, tg⟩ := en
  obtain ⟨pc, raw, len, lk⟩ := r
  dsimp only at he hs k hok ⊢
  subst he
  simp only [okE, Bool.and_eq_true, decide_eq_true_eq] at hok
  obtain ⟨hd, ⟨⟨hn, rfl⟩, rfl⟩, hr⟩ := hok
  intro ls hl
  simp only [pS] at hs
  cases hs
  have := KL.go hn k ls hl
  have kep : ∀ a : Nat, a < s0.heap.size → ¬ (fun q => s0.heap.size ≤ q) a → s.heap[a]? = s0.heap[a]? := fun a ha _ => hold a ha
  split at hr
  · have hr := of_decide_eq_true hr
    subst hr
    simp only [List.map_cons, cvV] at this
    exact va_gets hx hb (va_Z.moved hW.alike (G.2.2.2.2.2.2.1.kept kep)) hS hown hL1 (fun _ h => h) hd this
  · rename_i h0
    have hr := of_decide_eq_true hr
    subst hr
    have e9 : cvV ρ z (match tg with | 0 => Value.int 1 | _ => Value.ref 999) = z := by
      rcases tg with _ | n9
      · exact absurd rfl h0
      · simp [cvV]
    simp only [List.map_cons, e9] at this
    exact va_gets hx hb (va_Z.moved hW.alike (G.2.2.2.2.2.2.2.1.kept kep)) hS hown hL2 (fun _ h => h) hd this

end PURE
