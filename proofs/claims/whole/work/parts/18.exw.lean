/-! ===== the words of exceptions made ===== -/
def EXi (j : Nat) : Nat := if j = 4 then 13 else 7
def EXb (j : Nat) : ByteArray := if j = 4 then ⟨#[0x2a, 0x2b, 0xb7, 0x00, 0x0d, 0xb1]⟩ else Bundle.six
noncomputable def EXq (q : String × Nat × Nat × Nat × Nat × Nat × Nat) : Bool := (Jvm.Cond.classLink q.1 q.2.1 (EXn q.2.2.2.2.2.1) :: Jvm.Cond.initialized (EXn q.2.2.2.2.2.1) :: (ownI q.1 q.2.2.2.1 (EXn q.2.2.2.2.2.1) (EXi q.2.2.2.2.2.1) (EXb q.2.2.2.2.2.1)).filter vx_no).all fun w => lw_tbl.contains w && wK w
set_option maxRecDepth 100000 in
theorem EXw_0 : (((EXc.drop 0).take 1).all EXq) = true := by decide +kernel
set_option maxRecDepth 100000 in
theorem EXw_1 : (((EXc.drop 1).take 1).all EXq) = true := by decide +kernel
set_option maxRecDepth 100000 in
theorem EXw_2 : (((EXc.drop 2).take 1).all EXq) = true := by decide +kernel
set_option maxRecDepth 100000 in
theorem EXw_3 : (((EXc.drop 3).take 1).all EXq) = true := by decide +kernel
set_option maxRecDepth 100000 in
theorem EXw_4 : (((EXc.drop 4).take 1).all EXq) = true := by decide +kernel
set_option maxRecDepth 100000 in
theorem EXw_5 : (((EXc.drop 5).take 1).all EXq) = true := by decide +kernel
set_option maxRecDepth 100000 in
theorem EXw_6 : (((EXc.drop 6).take 1).all EXq) = true := by decide +kernel
set_option maxRecDepth 100000 in
theorem EXw_7 : (((EXc.drop 7).take 1).all EXq) = true := by decide +kernel
set_option maxRecDepth 100000 in
theorem EXw_8 : (((EXc.drop 8).take 1).all EXq) = true := by decide +kernel
set_option maxRecDepth 100000 in
theorem EXw_9 : (((EXc.drop 9).take 1).all EXq) = true := by decide +kernel
set_option maxRecDepth 100000 in
theorem EXw_10 : (((EXc.drop 10).take 1).all EXq) = true := by decide +kernel
set_option maxRecDepth 100000 in
theorem EXw_11 : (((EXc.drop 11).take 1).all EXq) = true := by decide +kernel
set_option maxRecDepth 100000 in
theorem EXw_12 : (((EXc.drop 12).take 1).all EXq) = true := by decide +kernel
set_option maxRecDepth 100000 in
theorem EXw_13 : (((EXc.drop 13).take 1).all EXq) = true := by decide +kernel
set_option maxRecDepth 100000 in
theorem EXw_14 : (((EXc.drop 14).take 1).all EXq) = true := by decide +kernel
theorem ex_take {α : Type} (f : α → Bool) : ∀ (l : List α) (n : Nat), (∀ j, j < n → ((l.drop j).take 1).all f = true) → l.length ≤ n → ∀ q ∈ l, f q = true := by
  intro l n h hl q hq
  obtain ⟨j, hj, rfl⟩ := List.mem_iff_getElem.mp hq
  have h1 := h j (by omega)
  rw [List.drop_eq_getElem_cons hj, List.take_succ_cons, List.all_cons, Bool.and_eq_true] at h1
  exact h1.1
theorem EXw (q : String × Nat × Nat × Nat × Nat × Nat × Nat) (hq : q ∈ EXc) : ∀ w ∈ Jvm.Cond.classLink q.1 q.2.1 (EXn q.2.2.2.2.2.1) :: Jvm.Cond.initialized (EXn q.2.2.2.2.2.1) :: (ownI q.1 q.2.2.2.1 (EXn q.2.2.2.2.2.1) (EXi q.2.2.2.2.2.1) (EXb q.2.2.2.2.2.1)).filter vx_no, w ∈ lw_tbl ∧ wK w = true := by
  have h1 : EXq q = true := ex_take EXq EXc 15 (fun j hj => by
    match j, hj with
    | 0, _ => exact EXw_0
    | 1, _ => exact EXw_1
    | 2, _ => exact EXw_2
    | 3, _ => exact EXw_3
    | 4, _ => exact EXw_4
    | 5, _ => exact EXw_5
    | 6, _ => exact EXw_6
    | 7, _ => exact EXw_7
    | 8, _ => exact EXw_8
    | 9, _ => exact EXw_9
    | 10, _ => exact EXw_10
    | 11, _ => exact EXw_11
    | 12, _ => exact EXw_12
    | 13, _ => exact EXw_13
    | 14, _ => exact EXw_14
    | j + 15, h => omega) (by decide +kernel) q hq
  intro w hw
  have h2 := List.all_eq_true.mp h1 w hw
  rw [Bool.and_eq_true] at h2
  exact ⟨List.contains_iff_mem.mp h2.1, h2.2⟩
theorem EXw_ot {w : Jvm.Cond} (h : w ∈ lw_tbl) (hk : wK w = true) : vx_ot w = true := by
  have h1 := List.all_eq_true.mp tbl_face w h
  rw [hk] at h1
  unfold vx_ot
  revert h1
  cases goodWord w <;> cases w.onTables <;> cases w.keepsFace <;> simp
theorem EXb_ok (j : Nat) : decode (EXb j) 0 = .ok (.aload_n 0, 1) ∧ decode (EXb j) 1 = .ok (.aload_n 1, 1) ∧ decode (EXb j) 2 = .ok (.invokespecial (EXi j), 3) ∧ decode (EXb j) 5 = .ok (.return_, 1) := by
  unfold EXb EXi
  by_cases h : j = 4
  · rw [if_pos h, if_pos h]
    exact ⟨by decide +kernel, by decide +kernel, by decide +kernel, by decide +kernel⟩
  · rw [if_neg h, if_neg h]
    exact ⟨by decide +kernel, by decide +kernel, by decide +kernel, by decide +kernel⟩
theorem EX_fit : (List.range 5).all (fun j => Bundle.fit (EXn j)) = true := by decide +kernel
