/-! ===== every special step but calls ===== -/
noncomputable def cK (y : Nat) : Bool := (pgM y).1.all fun e => match e.1 with
  | .invokestatic k => decide (k < 407)
  | .invokevirtual k => decide (k < 407)
  | .invokespecial k => decide (k < 407) || decide (k = 9999)
  | _ => true
theorem cK_0 : (List.range' 0 100).all cK = true := by decide +kernel
theorem cK_1 : (List.range' 100 100).all cK = true := by decide +kernel
theorem cK_2 : (List.range' 200 100).all cK = true := by decide +kernel
theorem cK_3 : (List.range' 300 108).all cK = true := by decide +kernel
theorem cK_all (y : Nat) (hy : y < 408) : cK y = true := by
  have f : ∀ a n, (List.range' a n).all cK = true → a ≤ y → y < a + n → cK y = true := fun a n h h1 h2 => List.all_eq_true.mp h y (List.mem_range'_1.mpr ⟨h1, h2⟩)
  by_cases h0 : y < 100
  · exact f 0 100 cK_0 (by omega) (by omega)
  by_cases h1 : y < 200
  · exact f 100 100 cK_1 (by omega) (by omega)
  by_cases h2 : y < 300
  · exact f 200 100 cK_2 (by omega) (by omega)
  · exact f 300 108 cK_3 (by omega) (by omega)
theorem ini_ret : (List.range 407).all (fun y => decide ((mN y).name ≠ "<init>") || decide (mR y = none)) = true := by decide +kernel
theorem nar_ref {t : FieldType} (h : t.isReference = true) (a : Nat) : narrow t (.ref a) = .ref a ∧ fits t (.ref a) = true := by
  cases t <;> first | exact ⟨rfl, rfl⟩ | exact absurd h (by decide)
theorem nar_bool {x : Int32} (h : x = 0 ∨ x = 1) : narrow .boolean (.int x) = .int x ∧ fits .boolean (.int x) = true := by
  rcases h with rfl | rfl <;> exact ⟨by rfl, by rfl⟩
section SPC
variable {p : Program} {l : Launch} {e : Env} {R : Room} {s : State} {m : MethodId} {args : Array Value} {below : List Frame} {meth : Method} {c : Code} {H : Heap} {locs : List Loc} {cells slots : Nat} {Q : State → Prop}
variable {s0 : State} {D : va_G} {ρ : Nat → Nat} {z : Value} {cc : ByteArray} {own : String} {ini : Bool} {pcs : List Nat} {r : Nat × Instr × Nat × Nat} {L S : List Value} {nL n0 u0 : Nat}
set_option maxHeartbeats 4000000 in
theorem ss_putI (G : Gho l s0 D ρ z) (hW : s0.WarmedH s.vm) (hx : p.tables.exec = Jvm.exec) (hb : c.code = cc) (hown : s.vm.findClass own = some m.cls) (hini : ini = true → meth.name = "<init>") {k9 nx tg a : Nat} {x cst : Int32} {h : aH} (hok : okE cc own ini pcs (.putfield k9, cst, nx, tg) r = true)
    (hc : aT h a = tg ∧ tg < 13 ∧ 1000 ≤ a ∧ k9 < nF tg ∧ (fK tg k9 = 0 ∨ fK tg k9 = 2 ∧ (x = 0 ∨ x = 1)))
    (k : KC p l e R s m args below meth c Q s0 D ρ z nL n0 u0 ((pcs[nx]?).getD 0) L S (aSI h a k9 x)) : KC p l e R s m args below meth c Q s0 D ρ z nL n0 u0 r.1 L (.int x :: .ref a :: S) h := by
  obtain ⟨h1, h2, h3, h4, h5⟩ := hc
  obtain ⟨-, t2, t3, -⟩ := ty_ok h2 h4
  have hk : fK tg k9 ≠ 1 := by omega
  have hnf : narrow (fTy tg k9) (.int x) = .int x ∧ fits (fTy tg k9) (.int x) = true := by
    rcases h5 with h5 | ⟨h5, h6⟩
    · rw [t2 h5]; exact ⟨rfl, rfl⟩
    · rw [t3 h5]; exact nar_bool h6
  refine ss_putfield G hW hx hb hown hini (h' := aSI h a k9 x) (v := .int x) hok h1 h2 h3 h4 hnf.1 hnf.2 rfl rfl (fun _ => rfl) (fun _ => rfl) (fun b j hb => ?_) (fun _ _ _ => rfl) ?_ (fun j hj => ?_) k
  · show (if b = a ∧ j = k9 then x else aI h b j) = aI h b j
    rw [if_neg (fun h9 => hb h9.1)]
  · unfold fV
    rw [if_neg hk]
    show Value.int (if a = a ∧ k9 = k9 then x else aI h a k9) = _
    rw [if_pos ⟨rfl, rfl⟩]
  · have e1 : aI (aSI h a k9 x) a j = aI h a j := by
      show (if a = a ∧ j = k9 then x else aI h a j) = _
      rw [if_neg (fun h9 => hj h9.2)]
    unfold fV
    rw [e1]
    rfl
set_option maxHeartbeats 4000000 in
theorem ss_putR (G : Gho l s0 D ρ z) (hW : s0.WarmedH s.vm) (hx : p.tables.exec = Jvm.exec) (hb : c.code = cc) (hown : s.vm.findClass own = some m.cls) (hini : ini = true → meth.name = "<init>") {k9 nx tg a b : Nat} {cst : Int32} {h : aH} (hok : okE cc own ini pcs (.putfield k9, cst, nx, tg) r = true)
    (hc : aT h a = tg ∧ tg < 13 ∧ 1000 ≤ a ∧ k9 < nF tg ∧ fK tg k9 = 1 ∧ 1000 ≤ b)
    (k : KC p l e R s m args below meth c Q s0 D ρ z nL n0 u0 ((pcs[nx]?).getD 0) L S (aSR h a k9 b)) : KC p l e R s m args below meth c Q s0 D ρ z nL n0 u0 r.1 L (.ref b :: .ref a :: S) h := by
  obtain ⟨h1, h2, h3, h4, h5, h6⟩ := hc
  obtain ⟨-, -, -, t4⟩ := ty_ok h2 h4
  have hcv : cvV ρ z (.ref b) = .ref (ρ b) := if_neg (show b ≠ 999 by omega)
  obtain ⟨n1, n2⟩ := nar_ref (t4 h5) (ρ b)
  refine ss_putfield G hW hx hb hown hini (h' := aSR h a k9 b) (v := .ref b) hok h1 h2 h3 h4 (by rw [hcv]; exact n1) (by rw [hcv]; exact n2) rfl rfl (fun _ => rfl) (fun _ => rfl) (fun _ _ _ => rfl) (fun d j hd => ?_) ?_ (fun j hj => ?_) k
  · show (if d = a ∧ j = k9 then b else aR h d j) = aR h d j
    rw [if_neg (fun h9 => hd h9.1)]
  · unfold fV
    rw [if_pos h5]
    show rV (if a = a ∧ k9 = k9 then b else aR h a k9) = _
    rw [if_pos ⟨rfl, rfl⟩]
    exact if_neg (show b ≠ 0 by omega)
  · have e1 : aR (aSR h a k9 b) a j = aR h a j := by
      show (if a = a ∧ j = k9 then b else aR h a j) = _
      rw [if_neg (fun h9 => hj h9.2)]
    unfold fV
    rw [e1]
    rfl
set_option maxHeartbeats 4000000 in
theorem ss_obj (G : Gho l s0 D ρ z) (hW : s0.WarmedH s.vm) (hx : p.tables.exec = Jvm.exec) (hb : c.code = cc) (hml : c.maxLocals = nL) (hown : s.vm.findClass own = some m.cls) {nx tg a : Nat} {cst : Int32} {h : aH} (hok : okE cc own ini pcs (.invokespecial 9999, cst, nx, tg) r = true) (ha : a ≠ 999) (h8 : cat8 S = true) (hRf : 1 ≤ R.frames) (hRl : 20 ≤ R.locals)
    (k : KC p l e R s m args below meth c Q s0 D ρ z nL n0 u0 ((pcs[nx]?).getD 0) L S h) : KC p l e R s m args below meth c Q s0 D ρ z nL n0 u0 r.1 L (.ref a :: S) h := by
  obtain ⟨pc, raw, len, lk⟩ := r
  simp only [okE, Bool.and_eq_true, decide_eq_true_eq] at hok
  obtain ⟨hd, ⟨hn, rfl⟩, hr⟩ := hok
  dsimp only at hd hn ⊢
  split at hr
  · rename_i q hq
    simp only [Bool.and_eq_true, decide_eq_true_eq, if_true] at hr
    obtain ⟨⟨rfl, rfl⟩, hq2⟩ := hr
    have hlink := word_on G hW (subl_mem _ _ ML_ok _ (List.mem_map_of_mem (List.mem_of_getElem? hq))) rfl args
    simp only [mlW, hq2] at hlink
    have hinst : (Cond.instanceMethod Lib.objectInit).before args s = true := word_on G hW (by decide +kernel) rfl args
    have hcode : (Cond.code Lib.objectInit ⟨#[0xb1]⟩ 1 none).before args s = true := word_on G hW (by decide +kernel) rfl args
    intro H locs hR hlo ls hl
    have k2 := KC.go hn k H locs hR hlo ls hl
    have hcv : cvV ρ z (.ref a) = .ref (ρ a) := if_neg ha
    simp only [List.map_cons, hcv]
    have hcs := catS (ρ := ρ) G.2.1 S
    have h8' : (S.map fun v => v.category).sum ≤ 8 := of_decide_eq_true h8
    exact W.objInit hx hb hown hlink hinst hcode (g := F0 m pc ls (.ref (ρ a) :: S.map (cvV ρ z))) rfl (by rw [hml]; exact hl.1) (a := ρ a) (rest := S.map (cvV ρ z)) rfl hd hRf (by show 2 * 0 + _ + 12 ≤ _; rw [hcs]; omega) k2
  · cases hr
end SPC
