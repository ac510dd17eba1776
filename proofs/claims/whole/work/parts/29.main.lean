/-! ===== every step; every run ===== -/
section MAIN
variable {p : Program} {l : Launch} {e : Env} {R : Room} {s : State} {m : MethodId} {args : Array Value} {below : List Frame} {meth : Method} {c : Code} {H : Heap} {locs : List Loc} {cells slots : Nat} {Q : State → Prop}
variable {s0 : State} {D : va_G} {ρ : Nat → Nat} {z : Value} {pcs : List Nat} {r : Nat × Instr × Nat × Nat} {L S : List Value} {n0 u0 : Nat}
set_option maxHeartbeats 40000000 in
theorem ss_all (G : Gho l s0 D ρ z) (hW : s0.WarmedH s.vm) (hx : p.tables.exec = Jvm.exec) {y : Nat} (hb : c.code = mB y) (hml : c.maxLocals = (pgM y).2.2.1) (hown : s.vm.findClass (mN y).cls = some m.cls) (hini : decide ((mN y).name = "<init>") = true → meth.name = "<init>") (hret : meth.sig.returnType = mR y) (hlocks : meth.locks = false) (hyl : y < 408)
    (hrows : ∀ (i : Nat) (e : mE), (pgM y).1[i]? = some e → ∃ r, (mW y)[i]? = some r ∧ okE (mB y) (mN y).cls (decide ((mN y).name = "<init>")) pcs e r = true) (hpcs : pcs = (mW y).map fun r => r.1)
    (hH : okH (mN y).cls pcs (pgM y).2.1 (mH y) = true) {o : oR} (htab : ((∃ v, o = .inl v) ∧ (pgM y).2.1 = []) ∨ c.exceptionTable.toList = tableOf (mH y)) {i d k : Nat} (hi : i < pcs.length) (hpc : pcs[i]?.getD 0 = r.1) (IH : SND l s0 D ρ z d) (hRf : d + 9 ≤ R.frames) (hRl : 3100 + 100 * d ≤ R.locals) {hF : aH} {mc ms : Nat} (hmc : mc = aN hF - n0) (hms : ms = aU hF - u0) (hRc : mc ≤ R.cells) (hRs : ms ≤ R.slots)
    {en : mE} {h : aH} {res : cfg ⊕ (oR × aH)} (hen : (pgM y).1[i]? = some en) (hok : okE (mB y) (mN y).cls (decide ((mN y).name = "<init>")) pcs en r = true) (hs : sS Pg (cD Pg d k) (pgM y) en i L S h = some res) (hle : le2 (hOf res) hF) (hn0 : n0 ≤ aN h) (hu0 : u0 ≤ aU h)
    (kI : ∀ c', res = .inl c' → KC p l e R s m args below meth c (vx_MQ below (McQ s0 D ρ z o hF) (McX s0 D ρ z o hF) args s mc ms (frB s0)) s0 D ρ z (pgM y).2.2.1 n0 u0 ((pcs[c'.1]?).getD 0) c'.2.1 c'.2.2.1 c'.2.2.2) (kR : ∀ r', res = .inr r' → r' = (o, hF)) :
    KC p l e R s m args below meth c (vx_MQ below (McQ s0 D ρ z o hF) (McX s0 D ρ z o hF) args s mc ms (frB s0)) s0 D ρ z (pgM y).2.2.1 n0 u0 r.1 L S h := by
  have hcK := List.all_eq_true.mp (cK_all y hyl) en (List.mem_of_getElem? hen)
  have hstK : ∀ (t k : Nat) (cst : Int32) (nx tg : Nat), (pgM y).1[t]? = some (Instr.astore k, cst, nx, tg) → k < (pgM y).2.2.1 := fun t k cst nx tg h9 => of_decide_eq_true (List.all_eq_true.mp (stK_all y hyl) _ (List.mem_of_getElem? h9))
  have hnat := nat_ok
  obtain ⟨i0, cst, nx, tg⟩ := en
  unfold sS at hs
  dsimp only at hs hcK
  split at hs
  all_goals first
    | (split at hs
       · cases hs; exact ss_if hx hb hok (kI _ rfl)
       · cases hs)
    | (split at hs
       · cases hs; exact ss_icmp hx hb hok (kI _ rfl)
       · cases hs)
    | (split at hs
       · cases hs; exact ss_ifnull hx hb hok (Or.inl rfl) (kI _ rfl)
       · split at hs
         · cases hs
         · rename_i h9; cases hs; exact ss_ifnull hx hb hok (Or.inr ⟨_, rfl, h9⟩) (kI _ rfl)
       · cases hs)
    | (split at hs
       · cases hs; exact ss_ifnonnull hx hb hok (Or.inl rfl) (kI _ rfl)
       · split at hs
         · cases hs
         · rename_i h9; cases hs; exact ss_ifnonnull hx hb hok (Or.inr ⟨_, rfl, h9⟩) (kI _ rfl)
       · cases hs)
    | (split at hs
       · split at hs
         · rename_i h9; cases hs; exact ss_tsw hx hb hok (Or.inl ⟨h9, rfl⟩) (kI _ rfl)
         · rename_i h9
           split at hs
           · rename_i o9 h8; cases hs; exact ss_tsw hx hb hok (Or.inr ⟨h9, o9, h8, rfl⟩) (kI _ rfl)
           · cases hs
       · cases hs)
    | (split at hs
       · cases hs; exact ss_lsw hx hb hok (kI _ rfl)
       · cases hs)
    | (split at hs
       · split at hs
         · rename_i h9; cases hs; exact ss_getfield G hW hx hb hown hok h9.1 h9.2 (kI _ rfl)
         · cases hs
       · cases hs)
    | (split at hs
       · split at hs
         · rename_i h9; cases hs; exact ss_putI G hW hx hb hown hini hok h9 (kI _ rfl)
         · cases hs
       · split at hs
         · rename_i h9; cases hs; exact ss_putR G hW hx hb hown hini hok h9 (kI _ rfl)
         · cases hs
       · cases hs)
    | (split at hs
       · split at hs
         · rename_i h9; cases hs; exact ss_iaload G hW hx hb hok h9.1 h9.2 (kI _ rfl)
         · cases hs
       · cases hs)
    | (split at hs
       · split at hs
         · rename_i h9; cases hs; exact ss_baload G hW hx hb hok h9.1 h9.2 (kI _ rfl)
         · cases hs
       · cases hs)
    | (split at hs
       · split at hs
         · rename_i h9; cases hs; exact ss_laload G hW hx hb hok h9.1 h9.2 (kI _ rfl)
         · cases hs
       · cases hs)
    | (split at hs
       · split at hs
         · rename_i h9; cases hs; exact ss_aaload G hW hx hb hok h9.1 h9.2 (kI _ rfl)
         · cases hs
       · cases hs)
    | (split at hs
       · split at hs
         · rename_i h9; cases hs; exact ss_iastore G hW hx hb hok h9.1 h9.2.1 h9.2.2 (kI _ rfl)
         · cases hs
       · cases hs)
    | (split at hs
       · split at hs
         · rename_i h9
           split at hs
           · rename_i h8; cases hs; exact ss_bastore G hW hx hb hok (Or.inl ⟨h8, rfl⟩) h9.1 h9.2 (kI _ rfl)
           · split at hs
             · rename_i h8; cases hs; exact ss_bastore G hW hx hb hok (Or.inr ⟨h8.1, h8.2, rfl⟩) h9.1 h9.2 (kI _ rfl)
             · cases hs
         · cases hs
       · cases hs)
    | (split at hs
       · split at hs
         · rename_i h9; cases hs; exact ss_lastore G hW hx hb hok h9.1 h9.2.1 ⟨h9.2.2.1, h9.2.2.2.1⟩ h9.2.2.2.2 (kI _ rfl)
         · cases hs
       · cases hs)
    | (split at hs
       · split at hs
         · rename_i h9; cases hs; exact ss_aastore G hW hx hb hok h9.1 h9.2.1 h9.2.2.1 h9.2.2.2.1 h9.2.2.2.2 (kI _ rfl)
         · cases hs
       · cases hs)
    | (split at hs
       · split at hs
         · rename_i h9; cases hs; exact ss_arraylength G hW hx hb hok h9 (kI _ rfl)
         · cases hs
       · cases hs)
    | (split at hs
       · split at hs
         · rename_i ty9 n9 S9 h9
           cases hs
           have e1 : aN h + 1 ≤ aN hF := hle.1
           have e2 : aU h + n9.toNatClampNeg ≤ aU hF := hle.2
           exact ss_newarray G hW hx hb hok h9.1 h9.2.1 h9.2.2 hn0 hu0 (by refine Nat.le_trans ?_ (Nat.le_trans (Nat.le_of_eq hmc.symm) hRc); omega) (by refine Nat.le_trans ?_ (Nat.le_trans (Nat.le_of_eq hms.symm) hRs); omega) (kI _ rfl)
         · cases hs
       · cases hs)
    | (split at hs
       · split at hs
         · rename_i h9
           cases hs
           have e1 := hle.1
           have e2 := hle.2
           simp only [hOf, aNew2, aN, aU] at e1 e2
           exact ss_multi G hW hx hb hown hok h9.1 h9.2.1 h9.2.2.1 h9.2.2.2 hn0 hu0 (by refine Nat.le_trans ?_ (Nat.le_trans (Nat.le_of_eq hmc.symm) hRc); simp only [aN]; omega) (by refine Nat.le_trans ?_ (Nat.le_trans (Nat.le_of_eq hms.symm) hRs); simp only [aU]; omega) (kI _ rfl)
         · cases hs
       · cases hs)
    | (split at hs
       · split at hs
         · rename_i h9
           cases hs
           have e1 := hle.1
           have e2 := hle.2
           simp only [hOf, aNew, aN, aU] at e1 e2
           exact ss_anewarray G hW hx hb hown hok h9.1 h9.2 hn0 hu0 (by refine Nat.le_trans ?_ (Nat.le_trans (Nat.le_of_eq hmc.symm) hRc); simp only [aN]; omega) (by refine Nat.le_trans ?_ (Nat.le_trans (Nat.le_of_eq hms.symm) hRs); simp only [aU]; omega) (kI _ rfl)
         · cases hs
       · cases hs)
    | (split at hs
       · rename_i h9
         cases hs
         have e1 := hle.1
         have e2 := hle.2
         simp only [hOf, aNew, aN, aU] at e1 e2
         exact ss_new G hW hx hb hown hok h9 hn0 hu0 (by refine Nat.le_trans ?_ (Nat.le_trans (Nat.le_of_eq hmc.symm) hRc); simp only [aN]; omega) (by refine Nat.le_trans ?_ (Nat.le_trans (Nat.le_of_eq hms.symm) hRs); simp only [aU]; omega) (kI _ rfl)
       · split at hs
         · rename_i h9
           obtain ⟨h7, h8, rfl⟩ := h9
           cases hs
           have e1 := hle.1
           have e2 := hle.2
           simp only [hOf, aNew, aN, aU] at e1 e2
           exact ss_make G hW hx hb hml hown hok h7 (by omega) (by omega) hn0 hu0 (by refine Nat.le_trans ?_ (Nat.le_trans (Nat.le_of_eq hmc.symm) hRc); simp only [aN]; omega) (by refine Nat.le_trans ?_ (Nat.le_trans (Nat.le_of_eq hms.symm) hRs); simp only [aU]; omega) (kI _ rfl)
         · cases hs)
    | (split at hs
       · split at hs
         · rename_i h9; exact ss_athrow G hW hx hb hown hrows hpcs hH htab hlocks hi hpc hmc hms hok h9 hs kI kR hstK
         · cases hs
       · cases hs)
    | (split at hs
       · split at hs
         · rename_i h9; cases hs; exact ss_copy G hW hx hb hml hown hok h9.1 h9.2.1 h9.2.2.1 h9.2.2.2.1 h9.2.2.2.2.1 h9.2.2.2.2.2.1 h9.2.2.2.2.2.2.1 h9.2.2.2.2.2.2.2.1 h9.2.2.2.2.2.2.2.2 (by omega) (by omega) (kI _ rfl)
         · cases hs
       · cases hs)
    | (split at hs
       · split at hs
         · rename_i h9
           cases hs
           have e1 := hle.1
           have e2 := hle.2
           simp only [hOf, aCln, aN, aU] at e1 e2
           exact ss_clone G hW hx hb hml hown hok h9.1 h9.2.1 h9.2.2 (by omega) (by omega) hn0 hu0 (by refine Nat.le_trans ?_ (Nat.le_trans (Nat.le_of_eq hmc.symm) hRc); simp only [aN]; omega) (by refine Nat.le_trans ?_ (Nat.le_trans (Nat.le_of_eq hms.symm) hRs); simp only [aU]; omega) (kI _ rfl)
         · cases hs
       · cases hs)
    | (split at hs
       · split at hs
         · rename_i h9; cases hs; exact ss_checkcast G hW hx hb hown hok h9.1 h9.2 (kI _ rfl)
         · cases hs
       · cases hs)
    | (split at hs
       · rename_i hY
         split at hs
         · rename_i h9
           rw [← pgM_of hY] at hs h9
           exact ss_static G hW hx hb hml hown hrows hpcs hH htab hlocks hi hpc IH hRf hRl hmc hms hRc hRs hok (of_decide_eq_true hcK) h9 hs hle hn0 hu0 kI kR hstK
         · cases hs
       · cases hs)
    | (split at hs
       · rename_i hY
         rw [← pgM_of hY] at hs
         split at hs
         · rename_i hdr
           split at hs
           · rename_i h9
             exact ss_virtual (isI := false) G hW hx hb hml hown hrows hpcs hH htab hlocks hi hpc IH hRf hRl hmc hms hRc hRs hok (of_decide_eq_true hcK) hdr h9 hs hle hn0 hu0 kI kR hstK
           · cases hs
         · cases hs
       · cases hs)
    | (split at hs
       · rename_i h99
         split at hs
         · split at hs
           · rename_i h9; cases hs; subst h99; exact ss_obj G hW hx hb hml hown hok h9.1 h9.2 (by omega) (by omega) (kI _ rfl)
           · cases hs
         · cases hs
       · rename_i h99
         split at hs
         · rename_i hY
           rw [← pgM_of hY] at hs
           split at hs
           · rename_i hdr
             split at hs
             · rename_i h9
               simp only [Bool.or_eq_true, decide_eq_true_eq] at hcK
               exact ss_virtual (isI := true) G hW hx hb hml hown hrows hpcs hH htab hlocks hi hpc IH hRf hRl hmc hms hRc hRs hok (hcK.resolve_right h99) hdr ⟨by omega, h9.2⟩ hs hle hn0 hu0 kI kR hstK
             · cases hs
           · cases hs
         · cases hs)
    | (split at hs
       · split at hs
         · rename_i h9
           cases hs
           cases kR _ rfl
           subst hmc
           subst hms
           exact ss_ireturn G hW hx hb hlocks hyl hret hok h9
         · cases hs
       · cases hs)
    | (split at hs
       · split at hs
         · rename_i h9
           cases hs
           cases kR _ rfl
           subst hmc
           subst hms
           exact ss_areturn G hW hx hb hlocks hyl hret hok h9
         · cases hs
       · cases hs)
    | (split at hs
       · split at hs
         · rename_i h9
           cases hs
           cases kR _ rfl
           subst hmc
           subst hms
           exact ss_return G hW hx hb hlocks hyl hret hok h9
         · cases hs
       · cases hs)
    | (cases hs; done)
end MAIN
