/-! ===== the law's loop ===== -/
def SWL : List Nat := [25, 82, 99, 124, 149, 156, 201, 246, 291, 336, 381, 416, 461, 496, 541, 586, 641, 676, 721, 766, 811, 856, 863, 908, 953, 960, 995, 1030, 1065, 1108, 1133, 1168, 1175, 1192, 1237, 1272, 1317, 1352, 1359, 1366, 1401, 1408, 1415, 1422, 1429, 1464, 1517, 1570, 1623, 1668, 1685, 1692, 1697, 1704]
def SWn (k : Nat) : Nat := (SWL[k]?).getD 0
theorem sw_at : ∀ k, k < 54 → (#[25, 82, 99, 124, 149, 156, 201, 246, 291, 336, 381, 416, 461, 496, 541, 586, 641, 676, 721, 766, 811, 856, 863, 908, 953, 960, 995, 1030, 1065, 1108, 1133, 1168, 1175, 1192, 1237, 1272, 1317, 1352, 1359, 1366, 1401, 1408, 1415, 1422, 1429, 1464, 1517, 1570, 1623, 1668, 1685, 1692, 1697, 1704] : Array Int)[k]? = some ((SWn k : Nat) : Int) := by decide +kernel
theorem and63 (x : Int32) : ∃ k, k < 64 ∧ x &&& 63 = nI k := by
  refine ⟨(x.toBitVec &&& 63#32).toNat, ?_, ?_⟩
  · rw [BitVec.toNat_and]
    have h1 : x.toBitVec.toNat &&& (63#32).toNat ≤ (63#32).toNat := Nat.and_le_right
    have e : (63#32).toNat = 63 := rfl
    omega
  · apply Int32.toBitVec_inj.mp
    simp [nI]
set_option maxRecDepth 100000 in
theorem sg_head : (K_Ws_law_.1.drop 13).take 12 = [(.iload 4, 0, 14, 0), (.aload 0, 0, 15, 0), (.arraylength, 0, 16, 0), (.iconst 0, 6, 17, 0), (.isub, 0, 18, 0), (.if_icmp .gt 0, 0, 19, 1723), (.aload 0, 0, 20, 0), (.iload 4, 0, 21, 0), (.iaload, 0, 22, 0), (.iconst 0, 63, 23, 0), (.iand, 0, 24, 0), (.tableswitch 1721 0 53 #[25, 82, 99, 124, 149, 156, 201, 246, 291, 336, 381, 416, 461, 496, 541, 586, 641, 676, 721, 766, 811, 856, 863, 908, 953, 960, 995, 1030, 1065, 1108, 1133, 1168, 1175, 1192, 1237, 1272, 1317, 1352, 1359, 1366, 1401, 1408, 1415, 1422, 1429, 1464, 1517, 1570, 1623, 1668, 1685, 1692, 1697, 1704], 0, 25, 0)] := by decide +kernel
set_option maxRecDepth 100000 in
theorem sg_tail : (K_Ws_law_.1.drop 1721).take 4 = [(.iinc 4 0, 6, 1722, 0), (.goto 0, 0, 1723, 13), (.iconst 0, 1, 1724, 0), (.ireturn, 0, 1725, 0)] := by decide +kernel
theorem hd_at : ∀ j e, [((.iload 4, 0, 14, 0) : mE), (.aload 0, 0, 15, 0), (.arraylength, 0, 16, 0), (.iconst 0, 6, 17, 0), (.isub, 0, 18, 0), (.if_icmp .gt 0, 0, 19, 1723), (.aload 0, 0, 20, 0), (.iload 4, 0, 21, 0), (.iaload, 0, 22, 0), (.iconst 0, 63, 23, 0), (.iand, 0, 24, 0), (.tableswitch 1721 0 53 #[25, 82, 99, 124, 149, 156, 201, 246, 291, 336, 381, 416, 461, 496, 541, 586, 641, 676, 721, 766, 811, 856, 863, 908, 953, 960, 995, 1030, 1065, 1108, 1133, 1168, 1175, 1192, 1237, 1272, 1317, 1352, 1359, 1366, 1401, 1408, 1415, 1422, 1429, 1464, 1517, 1570, 1623, 1668, 1685, 1692, 1697, 1704], 0, 25, 0)][j]? = some e → K_Ws_law_.1[13 + j]? = some e := seg_of sg_head
theorem tl_at : ∀ j e, [((.iinc 4 0, 6, 1722, 0) : mE), (.goto 0, 0, 1723, 13), (.iconst 0, 1, 1724, 0), (.ireturn, 0, 1725, 0)][j]? = some e → K_Ws_law_.1[1721 + j]? = some e := seg_of sg_tail
section LOOP
variable {d q L0 N U : Nat} {t : MT} {i : MI} {r : MR} {A : AS} {Q : oR × aH → Prop} {w5 w6 : Value}
theorem case_all (hI : CInv N t i r A) (hM : MInv i A) (ht : t 1 = (100, L0)) (hq : 6 * q + 6 ≤ L0) (hL : L0 ≤ 3072) (hd : 300 ≤ d) : ∀ k, k < 54 → CaseOK (d + 1) L0 q N U t i r Q w5 w6 (SWn k)
  | 0, _ => case_0 hI hM ht hq hL hd
  | 1, _ => case_1 hI hM ht hq hL hd
  | 2, _ => case_2 hI hM ht hq hL hd
  | 3, _ => case_3 hI hM ht hq hL hd
  | 4, _ => case_4 hI hM ht hq hL hd
  | 5, _ => case_5 hI hM ht hq hL hd
  | 6, _ => case_6 hI hM ht hq hL hd
  | 7, _ => case_7 hI hM ht hq hL hd
  | 8, _ => case_8 hI hM ht hq hL hd
  | 9, _ => case_9 hI hM ht hq hL hd
  | 10, _ => case_10 hI hM ht hq hL hd
  | 11, _ => case_11 hI hM ht hq hL hd
  | 12, _ => case_12 hI hM ht hq hL hd
  | 13, _ => case_13 hI hM ht hq hL hd
  | 14, _ => case_14 hI hM ht hq hL hd
  | 15, _ => case_15 hI hM ht hq hL hd
  | 16, _ => case_16 hI hM ht hq hL hd
  | 17, _ => case_17 hI hM ht hq hL hd
  | 18, _ => case_18 hI hM ht hq hL hd
  | 19, _ => case_19 hI hM ht hq hL hd
  | 20, _ => case_20 hI hM ht hq hL hd
  | 21, _ => case_21 hI hM ht hq hL hd
  | 22, _ => case_22 hI hM ht hq hL hd
  | 23, _ => case_23 hI hM ht hq hL hd
  | 24, _ => case_24 hI hM ht hq hL hd
  | 25, _ => case_25 hI hM ht hq hL hd
  | 26, _ => case_26 hI hM ht hq hL hd
  | 27, _ => case_27 hI hM ht hq hL hd
  | 28, _ => case_28 hI hM ht hq hL hd
  | 29, _ => case_29 hI hM ht hq hL hd
  | 30, _ => case_30 hI hM ht hq hL hd
  | 31, _ => case_31 hI hM ht hq hL hd
  | 32, _ => case_32 hI hM ht hq hL hd
  | 33, _ => case_33 hI hM ht hq hL hd
  | 34, _ => case_34 hI hM ht hq hL hd
  | 35, _ => case_35 hI hM ht hq hL hd
  | 36, _ => case_36 hI hM ht hq hL hd
  | 37, _ => case_37 hI hM ht hq hL hd
  | 38, _ => case_38 hI hM ht hq hL hd
  | 39, _ => case_39 hI hM ht hq hL hd
  | 40, _ => case_40 hI hM ht hq hL hd
  | 41, _ => case_41 hI hM ht hq hL hd
  | 42, _ => case_42 hI hM ht hq hL hd
  | 43, _ => case_43 hI hM ht hq hL hd
  | 44, _ => case_44 hI hM ht hq hL hd
  | 45, _ => case_45 hI hM ht hq hL hd
  | 46, _ => case_46 hI hM ht hq hL hd
  | 47, _ => case_47 hI hM ht hq hL hd
  | 48, _ => case_48 hI hM ht hq hL hd
  | 49, _ => case_49 hI hM ht hq hL hd
  | 50, _ => case_50 hI hM ht hq hL hd
  | 51, _ => case_51 hI hM ht hq hL hd
  | 52, _ => case_52 hI hM ht hq hL hd
  | 53, _ => case_53 hI hM ht hq hL hd
  | k + 54, h => by omega
theorem nI_sub6 {q : Nat} (hL : L0 ≤ 3072) (hq : 6 * q ≤ 10000) : (nI L0 - 6 < nI (6 * q)) ↔ ¬ 6 * q + 6 ≤ L0 := by
  rw [Int32.lt_iff_toInt_lt, Int32.toInt_sub, nI_toInt (by omega), nI_toInt (by omega)]
  have e6 : (6 : Int32).toInt = 6 := rfl
  rw [e6, Int.bmod_eq_of_le (by omega) (by omega)]
  omega
set_option maxHeartbeats 4000000 in
theorem law_loop (hL : L0 ≤ 3072) (hd : 300 ≤ d) {NB UB : Nat} (hQ : ∀ hF, aN hF ≤ NB → aU hF ≤ UB → Q (.inl (some (.int 1)), hF)) : ∀ m q, L0 ≤ 6 * q + 6 * m → q + m ≤ 600 → ∀ N U t i r A w5 w6, CInv N t i r A → MInv i A → t 1 = (100, L0) → N + 7 * m ≤ NB → U + 600 * m ≤ UB → Ex (d + 1) K_Ws_law_ (13, [.ref 1, .ref 1000, .ref 1638, .ref 1658, .int (nI (6 * q)), w5, w6], [], (N, U, t, i, r)) Q := by
  intro m
  induction m with
  | zero =>
    intro q hm hb N U t i r A w5 w6 hI hM ht hN hU
    refine ex_p (hd_at 0 _ rfl) rfl (ex_p (hd_at 1 _ rfl) rfl ?_)
    refine ex_alen (n := L0) (hd_at 2 _ rfl) (by show 100 ≤ (t 1).1 ∧ (t 1).1 ≤ 105; rw [ht]; show (100 : Nat) ≤ 100 ∧ (100 : Nat) ≤ 105; decide) (by show (t 1).2 = L0; rw [ht]) ?_
    refine ex_p (hd_at 3 _ rfl) rfl (ex_p (hd_at 4 _ rfl) rfl ?_)
    refine ex_gt (hd_at 5 _ rfl) (fun _ => ?_) (fun h => absurd ((nI_sub6 hL (by omega)).mpr (by omega)) h)
    refine ex_p (tl_at 2 _ rfl) rfl ?_
    exact ex_ret (tl_at 3 _ rfl) (Or.inr ⟨rfl, Or.inr rfl⟩) (hQ _ (by show N ≤ NB; omega) (by show U ≤ UB; omega))
  | succ m ih =>
    intro q hm hb N U t i r A w5 w6 hI hM ht hN hU
    refine ex_p (hd_at 0 _ rfl) rfl (ex_p (hd_at 1 _ rfl) rfl ?_)
    refine ex_alen (n := L0) (hd_at 2 _ rfl) (by show 100 ≤ (t 1).1 ∧ (t 1).1 ≤ 105; rw [ht]; show (100 : Nat) ≤ 100 ∧ (100 : Nat) ≤ 105; decide) (by show (t 1).2 = L0; rw [ht]) ?_
    refine ex_p (hd_at 3 _ rfl) rfl (ex_p (hd_at 4 _ rfl) rfl ?_)
    refine ex_gt (hd_at 5 _ rfl) (fun _ => ?_) (fun h => ?_)
    · refine ex_p (tl_at 2 _ rfl) rfl ?_
      exact ex_ret (tl_at 3 _ rfl) (Or.inr ⟨rfl, Or.inr rfl⟩) (hQ _ (by show N ≤ NB; omega) (by show U ≤ UB; omega))
    have hq : 6 * q + 6 ≤ L0 := Decidable.of_not_not (fun c => h ((nI_sub6 hL (by omega)).mpr c))
    have hk : KT (d + 1) K_Ws_law_ Q L0 N U (nI (6 * q)) := by
      intro N' U' t' i' r' A' w5' w6' h1 h2 hI' hM' ht'
      refine ex_p (tl_at 0 _ rfl) rfl (ex_p (tl_at 1 _ rfl) rfl ?_)
      have e : nI (6 * q) + 6 = nI (6 * (q + 1)) := by rw [lit_nI 6, nI_add]; exact congrArg nI (by omega)
      show Ex (d + 1) K_Ws_law_ (13, [.ref 1, .ref 1000, .ref 1638, .ref 1658, .int (nI (6 * q) + 6), w5', w6'], [], (N', U', t', i', r')) Q
      rw [e]
      exact ih (q + 1) (by omega) (by omega) N' U' t' i' r' A' w5' w6' hI' hM' ht' (by omega) (by omega)
    refine ex_p (hd_at 6 _ rfl) rfl (ex_p (hd_at 7 _ rfl) rfl ?_)
    refine ex_iald (h := (N, U, t, i, r)) (j := 6 * q) (hd_at 8 _ rfl) (by show (t 1).1 = 100; rw [ht]) rfl (by show 6 * q < (t 1).2; rw [ht]; show 6 * q < L0; omega) (by omega) ?_
    refine ex_p (hd_at 9 _ rfl) rfl (ex_p (hd_at 10 _ rfl) rfl ?_)
    show Ex (d + 1) K_Ws_law_ (24, _, [.int (i 1 (6 * q) &&& 63)], (N, U, t, i, r)) Q
    obtain ⟨k, hk64, ek⟩ := and63 (i 1 (6 * q))
    rw [ek]
    have et : (nI k).toInt = (k : Int) := nI_toInt (by omega)
    by_cases hk54 : k < 54
    · refine ex_swI (t := ((SWn k : Nat) : Int)) (hd_at 11 _ rfl) (by rw [et]; omega) (by rw [et]; omega) ?_ ?_
      · rw [et, show ((k : Int) - 0).toNat = k by omega]
        exact sw_at k hk54
      · exact case_all hI hM ht hq hL hd k hk54 hk
    · refine ex_swO (hd_at 11 _ rfl) (Or.inr (by rw [et]; omega)) ?_
      exact hk N U t i r A w5 w6 (by omega) (by omega) hI hM ht
end LOOP
