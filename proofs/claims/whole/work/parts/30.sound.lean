/-! ===== whatever the abstract machine answers, the machine answers ===== -/
section SOUND
variable {l : Launch} {s0 : State} {D : va_G} {ρ : Nat → Nat} {z : Value}
set_option maxHeartbeats 8000000 in
theorem run_snd {p : Program} {e : Env} {R : Room} {s : State} {m : MethodId} {args : Array Value} {below : List Frame} {meth : Method} {c : Code} {pcs : List Nat} {h0 : aH} (G : Gho l s0 D ρ z) (hW : s0.WarmedH s.vm) (hx : p.tables.exec = Jvm.exec) {y : Nat} (hb : c.code = mB y) (hml : c.maxLocals = (pgM y).2.2.1) (hown : s.vm.findClass (mN y).cls = some m.cls) (hini : decide ((mN y).name = "<init>") = true → meth.name = "<init>") (hret : meth.sig.returnType = mR y) (hlocks : meth.locks = false) (hyl : y < 408)
    (hrows : ∀ (i : Nat) (e : mE), (pgM y).1[i]? = some e → ∃ r, (mW y)[i]? = some r ∧ okE (mB y) (mN y).cls (decide ((mN y).name = "<init>")) pcs e r = true) (hpcs : pcs = (mW y).map fun r => r.1)
    (hH : okH (mN y).cls pcs (pgM y).2.1 (mH y) = true) {o : oR} (htab : ((∃ v, o = .inl v) ∧ (pgM y).2.1 = []) ∨ c.exceptionTable.toList = tableOf (mH y)) {d k : Nat} (IH : SND l s0 D ρ z d) (hRf : d + 9 ≤ R.frames) (hRl : 3100 + 100 * d ≤ R.locals) (hR0 : RelH s0 D ρ z h0 s.heap) {hF : aH} {mc ms : Nat} (hmc : mc = aN hF - aN h0) (hms : ms = aU hF - aU h0) (hRc : mc ≤ R.cells) (hRs : ms ≤ R.slots) :
    ∀ (kk : Nat) (c0 : cfg), lp Pg (cD Pg d k) (pgM y) kk c0 = some (o, hF) → le2 h0 c0.2.2.2 →
      KC p l e R s m args below meth c (vx_MQ below (McQ s0 D ρ z o hF) (McX s0 D ρ z o hF) args s mc ms (frB s0)) s0 D ρ z (pgM y).2.2.1 (aN h0) (aU h0) ((pcs[c0.1]?).getD 0) c0.2.1 c0.2.2.1 c0.2.2.2
  | 0, _, hs, _ => by cases hs
  | kk + 1, c0, hs, hle0 => by
    obtain ⟨i, L, S, h⟩ := c0
    dsimp only at hle0 ⊢
    have hmono : ∀ y as h r, cD Pg d k y as h = some r → le2 h r.2 := fun y as h r hr => cD_mono d k y as h r hr
    have hs1 := hs
    unfold lp at hs1
    cases hst : stp Pg (cD Pg d k) (pgM y) (i, L, S, h) with
    | none => rw [hst] at hs1; cases hs1
    | some res =>
      rw [hst] at hs1
      have hleF : le2 (hOf res) hF := by
        cases res with
        | inl c' => exact lp_mono hmono kk hs1
        | inr r' => cases hs1; exact le2.refl _
      have hkI : ∀ c', res = .inl c' → KC p l e R s m args below meth c (vx_MQ below (McQ s0 D ρ z o hF) (McX s0 D ρ z o hF) args s mc ms (frB s0)) s0 D ρ z (pgM y).2.2.1 (aN h0) (aU h0) ((pcs[c'.1]?).getD 0) c'.2.1 c'.2.2.1 c'.2.2.2 := by
        rintro c' rfl
        exact run_snd G hW hx hb hml hown hini hret hlocks hyl hrows hpcs hH htab IH hRf hRl hR0 hmc hms hRc hRs kk c' hs1 (hle0.trans (stp_mono hmono hst))
      have hkR : ∀ r', res = .inr r' → r' = (o, hF) := by
        rintro r' rfl
        exact Option.some.inj hs1
      have hst1 := hst
      unfold stp at hst1
      dsimp only at hst1
      cases hen : (pgM y).1[i]? with
      | none => rw [hen] at hst1; cases hst1
      | some en =>
        rw [hen] at hst1
        dsimp only at hst1
        obtain ⟨r, hr1, hok⟩ := hrows i en hen
        have hpc : pcs[i]?.getD 0 = r.1 := by rw [hpcs, List.getElem?_map, hr1]; rfl
        have hi : i < pcs.length := by
          rw [hpcs, List.length_map]
          exact (List.getElem?_eq_some_iff.mp hr1).1
        rw [hpc]
        cases hps : pS en L S with
        | some q9 =>
          rw [hps] at hst1
          have hres : res = .inl (q9.1, q9.2.1, q9.2.2, h) := (Option.some.inj hst1).symm
          refine ps_all G hW hx hb hown hok hR0 hle0.1 ?_ hps (hkI _ hres)
          have hk := List.all_eq_true.mp (stK_all y hyl) en (List.mem_of_getElem? hen)
          revert hk
          cases en.1 <;> first | exact fun _ => trivial | exact fun hk => of_decide_eq_true hk
        | none =>
          rw [hps] at hst1
          exact ss_all G hW hx hb hml hown hini hret hlocks hyl hrows hpcs hH htab hi hpc IH hRf hRl hmc hms hRc hRs hen hok hst1 hleF hle0.1 hle0.2 hkI hkR
set_option maxHeartbeats 4000000 in
theorem snd_all (G : Gho l s0 D ρ z) (hOK : ∀ y, y < 407 → okM y = true) : ∀ d, SND l s0 D ρ z d
  | 0 => fun k y as h o hF hy hcd => by cases hcd
  | d + 1 => fun k y as h o hF hy hcd => by
    have hP9 := okP_all y hy
    simp only [okP, Bool.and_eq_true, decide_eq_true_eq] at hP9
    obtain ⟨⟨⟨⟨-, hpl⟩, -⟩, -⟩, -⟩ := hP9
    unfold cD at hcd
    cases hM : Pg[y]? with
    | none => rw [hM] at hcd; cases hcd
    | some M =>
      rw [hM] at hcd
      dsimp only at hcd
      have hM2 := pgM_of hM
      have hk9 := hOK y hy
      unfold okM at hk9
      rw [hM] at hk9
      rw [← hM2] at hcd hk9
      simp only [Bool.and_eq_true, decide_eq_true_eq] at hk9
      obtain ⟨⟨hL, hH⟩, h0⟩ := hk9
      split at hcd
      · rename_i hc
        refine ex_entry hpl (fun p e s m args below meth c s₁ B hml htab hP => ?_)
        obtain ⟨rfl, hW, hR⟩ := hP
        obtain ⟨ls, e1, hl⟩ := ex_entryL G.2.1 m hc.2 hc.1
        rw [e1]
        have hp0 : (((mW y).map fun r => r.1)[0]?).getD 0 = 0 := by
          cases hq : ((mW y).map fun r => r.1)[0]? with
          | none => rfl
          | some v => rw [hq] at h0; exact h0
        have k9 := run_snd (below := below) (e := e) (R := rmD (d + 1) (aN hF - aN h) (aU hF - aU h)) (mc := aN hF - aN h) (ms := aU hF - aU h) (args := (as.map (cvV ρ z)).toArray) G hW B.exec B.bytes hml (findClass_of_methodNamed B.named) (fun h9 => by rw [(name_of_methodNamed B.named B.method).1]; exact of_decide_eq_true h9) B.returns (BodyLoose.notSynchronized B) (by omega) (fun i e he => okL_at _ _ _ hL i e he) rfl hH (Or.inr htab) (snd_all G hOK d) (by show d + 9 ≤ d + 1 + 8; omega) (by show 3100 + 100 * d ≤ 3000 + 100 * (d + 1); omega) hR rfl rfl (Nat.le_refl _) (Nat.le_refl _) k _ hcd (le2.refl h) s.heap [] hR (fun q hq => nomatch hq) ls hl
        rw [Nat.sub_self, Nat.sub_self] at k9
        dsimp only at k9
        rw [hp0] at k9
        exact k9
      · cases hcd
end SOUND
