/-! ===== every pure step ===== -/
noncomputable def stK (y : Nat) : Bool := (pgM y).1.all fun e => match e.1 with
  | .istore k => decide (k < (pgM y).2.2.1)
  | .astore k => decide (k < (pgM y).2.2.1)
  | _ => true
theorem stK_0 : (List.range' 0 100).all stK = true := by decide +kernel
theorem stK_1 : (List.range' 100 100).all stK = true := by decide +kernel
theorem stK_2 : (List.range' 200 100).all stK = true := by decide +kernel
theorem stK_3 : (List.range' 300 108).all stK = true := by decide +kernel
theorem stK_all (y : Nat) (hy : y < 408) : stK y = true := by
  have f : ∀ a n, (List.range' a n).all stK = true → a ≤ y → y < a + n → stK y = true := fun a n h h1 h2 => List.all_eq_true.mp h y (List.mem_range'_1.mpr ⟨h1, h2⟩)
  by_cases h0 : y < 100
  · exact f 0 100 stK_0 (by omega) (by omega)
  by_cases h1 : y < 200
  · exact f 100 100 stK_1 (by omega) (by omega)
  by_cases h2 : y < 300
  · exact f 200 100 stK_2 (by omega) (by omega)
  · exact f 300 108 stK_3 (by omega) (by omega)
section PUR
variable {p : Program} {l : Launch} {e : Env} {R : Room} {s : State} {m : MethodId} {args : Array Value} {below : List Frame} {meth : Method} {c : Code} {H : Heap} {locs : List Loc} {cells slots : Nat} {Q : State → Prop}
variable {s0 : State} {D : va_G} {ρ : Nat → Nat} {z : Value} {cc : ByteArray} {own : String} {ini : Bool} {pcs : List Nat} {r : Nat × Instr × Nat × Nat} {L S : List Value} {nL n0 u0 : Nat}
set_option maxHeartbeats 4000000 in
theorem ps_all (G : Gho l s0 D ρ z) (hW : s0.WarmedH s.vm) (hx : p.tables.exec = Jvm.exec) (hb : c.code = cc) (hown : s.vm.findClass own = some m.cls) {en : mE} {q9 : Nat × List Value × List Value} {h h0 : aH} (hok : okE cc own ini pcs en r = true) (hR0 : RelH s0 D ρ z h0 s.heap) (hle : aN h0 ≤ aN h)
    (hst : match en.1 with | .istore k => k < nL | .astore k => k < nL | _ => True) (hs : pS en L S = some q9)
    (k : KC p l e R s m args below meth c Q s0 D ρ z nL n0 u0 ((pcs[q9.1]?).getD 0) q9.2.1 q9.2.2 h) : KC p l e R s m args below meth c Q s0 D ρ z nL n0 u0 r.1 L S h := by
  intro H locs hR hlo
  have k2 := k H locs hR hlo
  have hs0 := hs
  unfold pS at hs
  split at hs
  case h_3 =>
    rename_i k9 heq
    have hold : ∀ q, q < s0.heap.size → s.heap[q]? = s0.heap[q]? := hR0.2.2.1
    have hS : va_S (fun q => s0.heap.size ≤ q) s.heap H locs := ⟨by have := hR0.1; have := hR.1; omega, fun q h1 h2 => by rw [hR.2.2.1 q (by omega), hold q (by omega)], hlo⟩
    exact ps_getstatic G hW hx hb hown hok heq hS hold (word_on G hW (by decide +kernel) rfl args) (word_on G hW (by decide +kernel) rfl args) hs0 k2
  all_goals first
    | (rename_i heq; exact ps_iadd G hW hx hb hown hok heq hs0 k2)
    | (rename_i heq; exact ps_isub G hW hx hb hown hok heq hs0 k2)
    | (rename_i heq; exact ps_imul G hW hx hb hown hok heq hs0 k2)
    | (rename_i heq; exact ps_idiv G hW hx hb hown hok heq hs0 k2)
    | (rename_i heq; exact ps_irem G hW hx hb hown hok heq hs0 k2)
    | (rename_i heq; exact ps_iand G hW hx hb hown hok heq hs0 k2)
    | (rename_i heq; exact ps_ior G hW hx hb hown hok heq hs0 k2)
    | (rename_i heq; exact ps_ixor G hW hx hb hown hok heq hs0 k2)
    | (rename_i heq; exact ps_ishl G hW hx hb hown hok heq hs0 k2)
    | (rename_i heq; exact ps_ishr G hW hx hb hown hok heq hs0 k2)
    | (rename_i heq; exact ps_ineg G hW hx hb hown hok heq hs0 k2)
    | (rename_i heq; exact ps_i2b G hW hx hb hown hok heq hs0 k2)
    | (rename_i heq; exact ps_i2c G hW hx hb hown hok heq hs0 k2)
    | (rename_i heq; exact ps_i2l G hW hx hb hown hok heq hs0 k2)
    | (rename_i heq; exact ps_iushr G hW hx hb hown hok heq hs0 k2)
    | (rename_i heq; exact ps_lcmp G hW hx hb hown hok heq hs0 k2)
    | (rename_i heq; exact ps_dup G hW hx hb hown hok heq hs0 k2)
    | (rename_i heq; exact ps_pop G hW hx hb hown hok heq hs0 k2)
    | (rename_i heq; exact ps_dup_x1 G hW hx hb hown hok heq hs0 k2)
    | (rename_i heq; exact ps_dup2 G hW hx hb hown hok heq hs0 k2)
    | (rename_i heq; exact ps_goto G hW hx hb hown hok heq hs0 k2)
    | (rename_i heq; exact ps_iconst G hW hx hb hown hok heq hs0 k2)
    | (rename_i heq; exact ps_aconst_null G hW hx hb hown hok heq hs0 k2)
    | (rename_i heq; exact ps_iload G hW hx hb hown hok heq hs0 k2)
    | (rename_i heq; exact ps_aload G hW hx hb hown hok heq hs0 k2)
    | (rename_i heq; exact ps_istore G hW hx hb hown hok heq (by rw [heq] at hst; exact hst) hs0 k2)
    | (rename_i heq; exact ps_astore G hW hx hb hown hok heq (by rw [heq] at hst; exact hst) hs0 k2)
    | (rename_i heq; exact ps_iinc G hW hx hb hown hok heq hs0 k2)
    | (rename_i heq; exact ps_ldc G hW hx hb hown hok heq (by omega) hs0 k2)
    | (cases hs; done)
end PUR
