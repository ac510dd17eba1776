/-! ===== the law's entry: what the Statement gives, told of the abstract heap ===== -/
theorem fit_at {s : State} (h : heapFits s = true) {a i : Nat} {c : Cell} {v : Value} (hc : s.heap[a]? = some c) (hv : c.slots[i]? = some v) : s.fitsSlot c.cls c.vm i v = true := by
  obtain ⟨ha, rfl⟩ := Array.getElem?_eq_some_iff.mp hc
  have h1 := (Array.all_eq_true_iff_forall_mem.mp h) _ (Array.getElem_mem ha)
  have hi : i < (s.heap[a]).slots.size := (Array.getElem?_eq_some_iff.mp hv).1
  have h2 := (List.all_eq_true.mp h1) i (List.mem_range.mpr hi)
  simpa [hv] using h2
theorem fit_byte {s : State} {c : Cell} {i : Nat} {v : Value} (hof : s.isArrayOf c .byte) (h : s.fitsSlot c.cls c.vm i v = true) : ∃ z, v = .int z := by
  obtain ⟨hst, k, hk, comp, hkind⟩ := hof
  have ht : s.slotType? c.cls c.vm i = some .byte := by
    unfold State.slotType?
    cases hvm : c.vm with
    | statics q => exact absurd hvm (hst q)
    | _ => simp [hk, hkind]
  unfold State.fitsSlot at h
  rw [ht] at h
  cases v with
  | int z => exact ⟨z, rfl⟩
  | _ => simp [fits] at h
def cInt (c : Cell) (j : Nat) : Int32 := match c.slots[j]? with | some (.int z) => z | _ => 0
/-- what is told of a String constant: its cell, its bytes' cell -/
def StrAt (s : State) (tm : Term) (args : Array Value) (cs : List Nat) (x : Nat × Nat × Cell) : Prop := tm.eval args s none [] s = some (.ref x.1) ∧ x.1 < s.heap.size ∧ x.2.1 < s.heap.size ∧ va_O "java/lang/String" x.1 (fun _ => False) s s.heap ∧ va_OF "java/lang/String" "value" "[B" (.ref x.2.1) x.1 (fun _ => False) s s.heap ∧ va_OF "java/lang/String" "coder" "B" (.int 0) x.1 (fun _ => False) s s.heap ∧ s.heap[x.2.1]? = some x.2.2 ∧ s.isArrayOf x.2.2 .byte ∧ x.2.2.vm ≠ .unknown ∧ (cs.length ≤ x.2.2.slots.size ∧ nI x.2.2.slots.size = nI cs.length) ∧ (∀ j, j < x.2.2.slots.size → x.2.2.slots[j]? = some (.int (cInt x.2.2 j))) ∧ ∀ j, j < cs.length → cInt x.2.2 j = nI (cs[j]?.getD 0)
/-- the words that the Statement has of a String constant -/
noncomputable def stW (q : (String × Nat × String) × List Nat) : List Jvm.Cond :=
  .exactly (.string q.1.1 q.1.2.1) "java/lang/String" :: .eq (.field (.string q.1.1 q.1.2.1) "java/lang/String" "coder" "B") (.int 0) :: .arrayOf (.field (.string q.1.1 q.1.2.1) "java/lang/String" "value" "[B") .byte :: .eq (.length (.field (.string q.1.1 q.1.2.1) "java/lang/String" "value" "[B")) (.int (nI q.2.length)) ::
    (List.range q.2.length).map fun j => .eq (.elem (.field (.string q.1.1 q.1.2.1) "java/lang/String" "value" "[B") (.int (nI j))) (.int (nI (q.2[j]?.getD 0)))
theorem str_at {args : Array Value} {s : State} (hF : heapFits s = true) {q : (String × Nat × String) × List Nat} (hw : ∀ w ∈ stW q, w.before args s = true) (hlen : q.2.length < 2 ^ 31) : ∃ x, StrAt s (.string q.1.1 q.1.2.1) args q.2 x := by
  have h1 := hw _ List.mem_cons_self
  have h2 := hw _ (List.mem_cons_of_mem _ List.mem_cons_self)
  have h3 := hw _ (List.mem_cons_of_mem _ (List.mem_cons_of_mem _ List.mem_cons_self))
  have h4 := hw _ (List.mem_cons_of_mem _ (List.mem_cons_of_mem _ (List.mem_cons_of_mem _ List.mem_cons_self)))
  have h5 : ∀ j, j < q.2.length → (Cond.eq (.elem (.field (.string q.1.1 q.1.2.1) "java/lang/String" "value" "[B") (.int (nI j))) (.int (nI (q.2[j]?.getD 0)))).before args s = true := fun j hj =>
    hw _ (List.mem_cons_of_mem _ (List.mem_cons_of_mem _ (List.mem_cons_of_mem _ (List.mem_cons_of_mem _ (List.mem_map.mpr ⟨j, List.mem_range.mpr hj, rfl⟩)))))
  obtain ⟨a, c, cA, kA, q1, q2, q3, q4, q5, q6, -⟩ := Cond.exactly_spec (args := args) (first := s) (o := none) (s := s) (idx := []) h1
  obtain ⟨t, ht, cell, g1, g2, g3, g4, g5, g6, -⟩ := va_Tof (f := fun j => .int (nI (q.2[j]?.getD 0))) (A := fun _ => False) hlen h3 (va_eqt h4) (fun j hj => va_eqt (h5 j hj)) (fun _ _ h => h)
  have hA : ∀ a : Nat, a < s.heap.size → ¬ (fun _ : Nat => False) a := fun _ _ h => h
  refine ⟨(a, t, cell), q1, (Array.getElem?_eq_some_iff.mp q3).1, (Array.getElem?_eq_some_iff.mp g1).1, ⟨cA, q3, q5, by rw [q6]; exact q2, fun h => h⟩, vk_OFof q1 ht hA, vk_OFof q1 (va_eqt h2) hA, g1, g2, g3, ⟨g4, g5⟩, fun j hj => ?_, fun j hj => ?_⟩
  · have hv : cell.slots[j]? = some cell.slots[j] := Array.getElem?_eq_getElem hj
    obtain ⟨z, hz⟩ := fit_byte g2 (fit_at hF g1 hv)
    show cell.slots[j]? = some (.int (cInt cell j))
    unfold cInt
    rw [hv, hz]
  · show cInt cell j = _
    unfold cInt
    rw [g6 j hj]
noncomputable def strsW : List Jvm.Cond := ((SRl.zip STC).map stW).flatten
set_option maxRecDepth 100000 in
theorem strs_ok : subl strsW (flatC (Jvm.Cond.and given_1 narrow_1)) = true := by decide +kernel
theorem strs_len : SRl.length = 94 ∧ STC.length = 94 := by decide +kernel
theorem nc_ok : ((List.range 5).all fun i => (List.range 5).all fun j => i == j || (flatC (Jvm.Cond.and given_1 narrow_1)).contains (.not (.castable (EXn i) (EXn j)))) = true := by decide +kernel
theorem inst_ok : ((List.range 13).all fun c => lw_tbl.contains (.instantiable (CNn c) (nF c))) = true := by decide +kernel
theorem ent_ok : (subl [.laysStatic "java/lang/String" "COMPACT_STRINGS" "Z"] lw_tbl && subl [.laysStatic "jdk/internal/util/Preconditions" "SIOOBE_FORMATTER" "Ljava/util/function/BiFunction;"] lw_tbl && subl [.laysStatic Bundle.tN "UNASSIGNED_STACK" Bundle.steD] lw_tbl && subl [.laysStatic Bundle.tN "SUPPRESSED_SENTINEL" Bundle.listD] lw_tbl && subl [.initialized "java/lang/String"] lw_tbl && subl [.initialized "jdk/internal/util/Preconditions"] lw_tbl && subl [.initialized Bundle.tN] lw_tbl) = true := by decide +kernel
theorem ent_ok2 : (subl [.isRef (.static Bundle.tN "UNASSIGNED_STACK" Bundle.steD), .isRef (.static Bundle.tN "SUPPRESSED_SENTINEL" Bundle.listD), .eq (.static "java/lang/String" "COMPACT_STRINGS" "Z") (.int 1), .isRef (.static "jdk/internal/util/Preconditions" "SIOOBE_FORMATTER" "Ljava/util/function/BiFunction;")] (flatC (Jvm.Cond.and given_1 narrow_1))) = true := by decide +kernel
theorem subl1 {x : Jvm.Cond} {ts : List Jvm.Cond} (h : subl [x] ts = true) : x ∈ ts := subl_mem _ _ h x List.mem_cons_self
/-- a table's word asks nothing of the arguments -/
theorem word_args {s : State} {args a' : Array Value} {w : Jvm.Cond} (hw : w ∈ lw_tbl) (h0 : w.before args s = true) : w.before a' s = true := by
  have h1 := List.all_eq_true.mp tbl_face w hw
  simp only [Bool.or_eq_true, Bool.and_eq_true] at h1
  rcases h1 with (h1 | h1) | h1
  · exact word_at (State.WarmedH.refl s) (good_of_word h1) h0
  · have h2 := Cond.onTables_warmFace (T := s) (args' := a') (State.WarmedH.refl s) h1.1 h1.2 h0
    rwa [State.setVm_self] at h2
  · cases w <;> first | exact h0 | cases h1
