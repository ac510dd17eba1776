/-! ===== the law's loop (written by wip/gen/mk9506.py) ===== -/
abbrev cds2 (z : Int32) : Prop := z = 0 ∨ z = 1
abbrev cds3 (z : Int32) : Prop := z = 0 ∨ z = 1 ∨ z = 2
abbrev cds4 (z : Int32) : Prop := z = 0 ∨ z = 1 ∨ z = 2 ∨ z = 3
theorem cd_i {P : Int32 → Prop} {c : Prop} [Decidable c] {a b : Int32 × Int32} (ha : P a.1) (hb : P b.1) : P (if c then a else b).1 := by
  by_cases h : c
  · rw [if_pos h]; exact ha
  · rw [if_neg h]; exact hb
theorem cd_j {α : Type} {P : Int32 → Prop} {c : Prop} [Decidable c] {a b : (Int32 × Int32) × α} (ha : P a.1.1) (hb : P b.1.1) : P (if c then a else b).1.1 := by
  by_cases h : c
  · rw [if_pos h]; exact ha
  · rw [if_neg h]; exact hb
section CDS
variable {S : SS} {L : LW} {W : PW} {A : AS} {n : Nat} {T : Nat → Int32} {x w z : Int32}

theorem cd_cell : cds3 (spCell S x w).1 := by
  unfold spCell
  exact (cd_i (P := cds3) (cd_i (P := cds3) (Or.inl rfl) (Or.inr (Or.inr rfl))) (Or.inr (Or.inl rfl)))
theorem cd_boat : cds3 (spBoat S x w).1 := by
  unfold spBoat
  exact (cd_i (P := cds3) (cd_i (P := cds3) (Or.inl rfl) (Or.inr (Or.inr rfl))) (Or.inr (Or.inl rfl)))
theorem cd_dead : cds3 (spDead S x w).1 := by
  unfold spDead
  exact (cd_i (P := cds3) (cd_i (P := cds3) (Or.inl rfl) (Or.inr (Or.inr rfl))) (Or.inr (Or.inl rfl)))
theorem cd_fish : cds3 (spFish S L x w).1 := by
  unfold spFish
  exact (cd_i (P := cds3) (cd_i (P := cds3) (Or.inl rfl) (Or.inr (Or.inr rfl))) (Or.inr (Or.inl rfl)))
theorem cd_buyer : cds3 (spBuyer S L x w).1 := by
  unfold spBuyer
  exact (cd_i (P := cds3) (cd_i (P := cds3) (Or.inl rfl) (Or.inr (Or.inr rfl))) (Or.inr (Or.inl rfl)))
theorem cd_rests : cds2 (spRests S x w).1 := by
  unfold spRests
  exact (cd_i (P := cds2) (Or.inl rfl) (Or.inr rfl))
theorem cd_meets : cds2 (spMeets S x w).1 := by
  unfold spMeets
  exact (cd_i (P := cds2) (Or.inl rfl) (Or.inr rfl))
theorem cd_led : cds2 (spLed S x w).1 := by
  unfold spLed
  exact (cd_i (P := cds2) (Or.inl rfl) (Or.inr rfl))
theorem cd_log : cds2 (spLog S x w).1 := by
  unfold spLog
  exact (cd_i (P := cds2) (Or.inl rfl) (Or.inr rfl))
theorem cd_kind : cds2 (spKind S x).1 := by
  unfold spKind
  exact (cd_i (P := cds2) (Or.inl rfl) (Or.inr rfl))
theorem cd_fewest : cds2 (spFewest S x).1 := by
  unfold spFewest
  exact (cd_i (P := cds2) (Or.inl rfl) (Or.inr rfl))
theorem cd_odds : cds2 (spOdds S x).1 := by
  unfold spOdds
  exact (cd_i (P := cds2) (Or.inl rfl) (Or.inr rfl))
theorem cd_parted : cds2 (spParted S x).1 := by
  unfold spParted
  exact (cd_i (P := cds2) (Or.inl rfl) (Or.inr rfl))
theorem cd_haul : cds3 (spHaul S x w).1 := by
  unfold spHaul
  exact (cd_i (P := cds3) (cd_i (P := cds3) (Or.inl rfl) (Or.inr (Or.inr rfl))) (Or.inr (Or.inl rfl)))
theorem cd_first : cds3 (spFirst S x w).1 := by
  unfold spFirst
  exact (cd_i (P := cds3) (cd_i (P := cds3) (Or.inl rfl) (Or.inr (Or.inr rfl))) (Or.inr (Or.inl rfl)))
theorem cd_where : cds3 (spWhere S L x w).1 := by
  unfold spWhere
  exact (cd_i (P := cds3) (cd_i (P := cds3) (Or.inl rfl) (Or.inr (Or.inr rfl))) (Or.inr (Or.inl rfl)))
theorem cd_spoils : cds2 (spSpoils S L x).1 := by
  unfold spSpoils
  exact (cd_i (P := cds2) (Or.inl rfl) (Or.inr rfl))
theorem cd_trial : cds2 (spTrial S L x w).1 := by
  unfold spTrial
  exact (cd_i (P := cds2) (Or.inl rfl) (Or.inr rfl))
theorem cd_span : cds2 (spSpan S L x w).1 := by
  unfold spSpan
  exact (cd_i (P := cds2) (Or.inl rfl) (Or.inr rfl))
theorem cd_whose : cds2 (spWhose S x).1 := by
  unfold spWhose
  exact (cd_i (P := cds2) (Or.inl rfl) (cd_i (P := cds2) (Or.inl rfl) (Or.inr rfl)))
theorem cd_pairs : cds2 (spPairs S x).1 := by
  unfold spPairs
  exact (cd_i (P := cds2) (Or.inl rfl) (cd_i (P := cds2) (Or.inl rfl) (Or.inr rfl)))
theorem cd_sale : cds2 (spSale S L x).1 := by
  unfold spSale
  exact (cd_i (P := cds2) (Or.inl rfl) (cd_i (P := cds2) (Or.inl rfl) (Or.inr rfl)))
theorem cd_chase : cds2 (spChase x w).1 := by
  unfold spChase
  exact (cd_i (P := cds2) (cd_i (P := cds2) (Or.inl rfl) (Or.inr rfl)) (Or.inr rfl))
theorem cd_turned : cds2 (spTurned n T x).1 := by
  unfold spTurned
  exact (cd_i (P := cds2) (Or.inl rfl) (Or.inr rfl))
theorem cd_ask : cds2 (spAsk n T).1 := by
  unfold spAsk
  exact (cd_i (P := cds2) (Or.inl rfl) (Or.inr rfl))
theorem cd_days : cds2 (spDays W L x).1.1 := by
  unfold spDays
  exact (cd_j (P := cds2) (Or.inl rfl) (Or.inr rfl))
theorem cd_heads : cds2 (spHeads W x w).1.1 := by
  unfold spHeads
  exact (cd_j (P := cds2) (Or.inl rfl) (Or.inr rfl))
theorem cd_ice : cds2 (spIce W x).1.1 := by
  unfold spIce
  exact (cd_j (P := cds2) (Or.inl rfl) (Or.inr rfl))
theorem cd_sponge : cds4 (spSponge W x w).1.1 := by
  unfold spSponge
  exact (cd_j (P := cds4) (cd_j (P := cds4) (cd_j (P := cds4) (Or.inl rfl) (Or.inr (Or.inr (Or.inr rfl)))) (Or.inr (Or.inr (Or.inl rfl)))) (Or.inr (Or.inl rfl)))
theorem cd_pay : cds3 (spPay W x w).1.1 := by
  unfold spPay
  exact (cd_j (P := cds3) (cd_j (P := cds3) (Or.inl rfl) (Or.inr (Or.inr rfl))) (Or.inr (Or.inl rfl)))
theorem cd_tell : cds4 (spTell W x w z).1.1 := by
  unfold spTell
  exact (cd_j (P := cds4) (cd_j (P := cds4) (cd_j (P := cds4) (Or.inl rfl) (Or.inr (Or.inr (Or.inr rfl)))) (Or.inr (Or.inr (Or.inl rfl)))) (Or.inr (Or.inl rfl)))
theorem cd_release : cds3 (spRelease W x).1.1 := by
  unfold spRelease
  exact (cd_j (P := cds3) (cd_j (P := cds3) (Or.inr (Or.inr rfl)) (Or.inl rfl)) (Or.inr (Or.inl rfl)))
theorem cd_current : cds3 (spCurrent W x w).1.1 := by
  unfold spCurrent
  exact (cd_j (P := cds3) (cd_j (P := cds3) (Or.inl rfl) (Or.inr (Or.inr rfl))) (Or.inr (Or.inl rfl)))
theorem cd_sell : cds3 (spSell W L x w).1.1 := by
  unfold spSell
  exact (cd_j (P := cds3) (cd_j (P := cds3) (Or.inl rfl) (Or.inr (Or.inr rfl))) (Or.inr (Or.inl rfl)))
theorem cd_law : cds2 (spLaw n T A).1.1 := by
  unfold spLaw
  cases rLawA n T with
  | inl e => exact Or.inr rfl
  | inr p => exact Or.inl rfl
theorem cd_waters : cds3 (spWaters n T W).1.1 := by
  unfold spWaters
  cases rSea n T W.1 with
  | inl e => exact Or.inr (Or.inl rfl)
  | inr p => exact cd_j (P := cds3) (Or.inr (Or.inr rfl)) (Or.inl rfl)
end CDS
theorem seg_of {l g : List mE} {p : Nat} (h : (l.drop p).take g.length = g) : ∀ j e, g[j]? = some e → l[p + j]? = some e := by
  intro j e hj
  have hlt : j < g.length := (List.getElem?_eq_some_iff.mp hj).1
  have h2 := congrArg (fun x : List mE => x[j]?) h
  simp only [List.getElem?_take, List.getElem?_drop, if_pos hlt] at h2
  rw [h2]; exact hj

set_option maxRecDepth 100000 in
theorem sg_0 : (K_Ws_law_.1.drop 25).take (gsh_Diiiii 25 121 222).length = gsh_Diiiii 25 121 222 := by decide +kernel
set_option maxRecDepth 100000 in
theorem sg_1 : (K_Ws_law_.1.drop 82).take (gsh_Di 82 122 223).length = gsh_Di 82 122 223 := by decide +kernel
set_option maxRecDepth 100000 in
theorem sg_2 : (K_Ws_law_.1.drop 99).take (gsh_H 99 371 256).length = gsh_H 99 371 256 := by decide +kernel
set_option maxRecDepth 100000 in
theorem sg_3 : (K_Ws_law_.1.drop 124).take (gsh_H 124 372 257).length = gsh_H 124 372 257 := by decide +kernel
set_option maxRecDepth 100000 in
theorem sg_4 : (K_Ws_law_.1.drop 149).take (gsh_D 149 125 233).length = gsh_D 149 125 233 := by decide +kernel
set_option maxRecDepth 100000 in
theorem sg_5 : (K_Ws_law_.1.drop 156).take (gsh_Hii 156 373 275).length = gsh_Hii 156 373 275 := by decide +kernel
set_option maxRecDepth 100000 in
theorem sg_6 : (K_Ws_law_.1.drop 201).take (gsh_Hii 201 374 280).length = gsh_Hii 201 374 280 := by decide +kernel
set_option maxRecDepth 100000 in
theorem sg_7 : (K_Ws_law_.1.drop 246).take (gsh_Hii 246 375 281).length = gsh_Hii 246 375 281 := by decide +kernel
set_option maxRecDepth 100000 in
theorem sg_8 : (K_Ws_law_.1.drop 291).take (gsh_Hii 291 376 283).length = gsh_Hii 291 376 283 := by decide +kernel
set_option maxRecDepth 100000 in
theorem sg_9 : (K_Ws_law_.1.drop 336).take (gsh_Hii 336 377 284).length = gsh_Hii 336 377 284 := by decide +kernel
set_option maxRecDepth 100000 in
theorem sg_10 : (K_Ws_law_.1.drop 381).take (gsh_Hi 381 378 285).length = gsh_Hi 381 378 285 := by decide +kernel
set_option maxRecDepth 100000 in
theorem sg_11 : (K_Ws_law_.1.drop 416).take (gsh_Hii 416 379 287).length = gsh_Hii 416 379 287 := by decide +kernel
set_option maxRecDepth 100000 in
theorem sg_12 : (K_Ws_law_.1.drop 461).take (gsh_Hi 461 380 288).length = gsh_Hi 461 380 288 := by decide +kernel
set_option maxRecDepth 100000 in
theorem sg_13 : (K_Ws_law_.1.drop 496).take (gsh_Hii 496 381 289).length = gsh_Hii 496 381 289 := by decide +kernel
set_option maxRecDepth 100000 in
theorem sg_14 : (K_Ws_law_.1.drop 541).take (gsh_Hii 541 382 290).length = gsh_Hii 541 382 290 := by decide +kernel
set_option maxRecDepth 100000 in
theorem sg_15 : (K_Ws_law_.1.drop 586).take (gsh_Hiii 586 383 291).length = gsh_Hiii 586 383 291 := by decide +kernel
set_option maxRecDepth 100000 in
theorem sg_16 : (K_Ws_law_.1.drop 641).take (gsh_Hi 641 384 292).length = gsh_Hi 641 384 292 := by decide +kernel
set_option maxRecDepth 100000 in
theorem sg_17 : (K_Ws_law_.1.drop 676).take (gsh_Hii 676 385 293).length = gsh_Hii 676 385 293 := by decide +kernel
set_option maxRecDepth 100000 in
theorem sg_18 : (K_Ws_law_.1.drop 721).take (gsh_Hii 721 386 294).length = gsh_Hii 721 386 294 := by decide +kernel
set_option maxRecDepth 100000 in
theorem sg_19 : (K_Ws_law_.1.drop 766).take (gsh_Hii 766 387 296).length = gsh_Hii 766 387 296 := by decide +kernel
set_option maxRecDepth 100000 in
theorem sg_20 : (K_Ws_law_.1.drop 811).take (gsh_Hii 811 388 299).length = gsh_Hii 811 388 299 := by decide +kernel
set_option maxRecDepth 100000 in
theorem sg_21 : (K_Ws_law_.1.drop 856).take (gsh_D 856 142 300).length = gsh_D 856 142 300 := by decide +kernel
set_option maxRecDepth 100000 in
theorem sg_22 : (K_Ws_law_.1.drop 863).take (gsh_Hii 863 389 306).length = gsh_Hii 863 389 306 := by decide +kernel
set_option maxRecDepth 100000 in
theorem sg_23 : (K_Ws_law_.1.drop 908).take (gsh_Hii 908 390 307).length = gsh_Hii 908 390 307 := by decide +kernel
set_option maxRecDepth 100000 in
theorem sg_24 : (K_Ws_law_.1.drop 953).take (gsh_D 953 145 309).length = gsh_D 953 145 309 := by decide +kernel
set_option maxRecDepth 100000 in
theorem sg_25 : (K_Ws_law_.1.drop 960).take (gsh_Hi 960 391 313).length = gsh_Hi 960 391 313 := by decide +kernel
set_option maxRecDepth 100000 in
theorem sg_26 : (K_Ws_law_.1.drop 995).take (gsh_Hi 995 392 315).length = gsh_Hi 995 392 315 := by decide +kernel
set_option maxRecDepth 100000 in
theorem sg_27 : (K_Ws_law_.1.drop 1030).take (gsh_Hi 1030 393 316).length = gsh_Hi 1030 393 316 := by decide +kernel
set_option maxRecDepth 100000 in
theorem sg_28 : (K_Ws_law_.1.drop 1065).take (gsh_Hb 1065 394 320).length = gsh_Hb 1065 394 320 := by decide +kernel
set_option maxRecDepth 100000 in
theorem sg_29 : (K_Ws_law_.1.drop 1108).take (gsh_H 1108 395 322).length = gsh_H 1108 395 322 := by decide +kernel
set_option maxRecDepth 100000 in
theorem sg_30 : (K_Ws_law_.1.drop 1133).take (gsh_Hi 1133 396 325).length = gsh_Hi 1133 396 325 := by decide +kernel
set_option maxRecDepth 100000 in
theorem sg_31 : (K_Ws_law_.1.drop 1168).take (gsh_D 1168 152 326).length = gsh_D 1168 152 326 := by decide +kernel
set_option maxRecDepth 100000 in
theorem sg_32 : (K_Ws_law_.1.drop 1175).take (gsh_Di 1175 153 329).length = gsh_Di 1175 153 329 := by decide +kernel
set_option maxRecDepth 100000 in
theorem sg_33 : (K_Ws_law_.1.drop 1192).take (gsh_Hii 1192 397 333).length = gsh_Hii 1192 397 333 := by decide +kernel
set_option maxRecDepth 100000 in
theorem sg_34 : (K_Ws_law_.1.drop 1237).take (gsh_Hi 1237 398 337).length = gsh_Hi 1237 398 337 := by decide +kernel
set_option maxRecDepth 100000 in
theorem sg_35 : (K_Ws_law_.1.drop 1272).take (gsh_Hii 1272 399 340).length = gsh_Hii 1272 399 340 := by decide +kernel
set_option maxRecDepth 100000 in
theorem sg_36 : (K_Ws_law_.1.drop 1317).take (gsh_Hi 1317 400 341).length = gsh_Hi 1317 400 341 := by decide +kernel
set_option maxRecDepth 100000 in
theorem sg_37 : (K_Ws_law_.1.drop 1352).take (gsh_D 1352 158 342).length = gsh_D 1352 158 342 := by decide +kernel
set_option maxRecDepth 100000 in
theorem sg_38 : (K_Ws_law_.1.drop 1359).take (gsh_D 1359 159 343).length = gsh_D 1359 159 343 := by decide +kernel
set_option maxRecDepth 100000 in
theorem sg_39 : (K_Ws_law_.1.drop 1366).take (gsh_Hi 1366 401 344).length = gsh_Hi 1366 401 344 := by decide +kernel
set_option maxRecDepth 100000 in
theorem sg_40 : (K_Ws_law_.1.drop 1401).take (gsh_D 1401 161 345).length = gsh_D 1401 161 345 := by decide +kernel
set_option maxRecDepth 100000 in
theorem sg_41 : (K_Ws_law_.1.drop 1408).take (gsh_D 1408 162 346).length = gsh_D 1408 162 346 := by decide +kernel
set_option maxRecDepth 100000 in
theorem sg_42 : (K_Ws_law_.1.drop 1415).take (gsh_D 1415 163 347).length = gsh_D 1415 163 347 := by decide +kernel
set_option maxRecDepth 100000 in
theorem sg_43 : (K_Ws_law_.1.drop 1422).take (gsh_D 1422 164 348).length = gsh_D 1422 164 348 := by decide +kernel
set_option maxRecDepth 100000 in
theorem sg_44 : (K_Ws_law_.1.drop 1429).take (gsh_Hi 1429 402 349).length = gsh_Hi 1429 402 349 := by decide +kernel
set_option maxRecDepth 100000 in
theorem sg_45 : (K_Ws_law_.1.drop 1464).take (gsh_Hib 1464 403 350).length = gsh_Hib 1464 403 350 := by decide +kernel
set_option maxRecDepth 100000 in
theorem sg_46 : (K_Ws_law_.1.drop 1517).take (gsh_Hib 1517 404 351).length = gsh_Hib 1517 404 351 := by decide +kernel
set_option maxRecDepth 100000 in
theorem sg_47 : (K_Ws_law_.1.drop 1570).take (gsh_Hib 1570 405 353).length = gsh_Hib 1570 405 353 := by decide +kernel
set_option maxRecDepth 100000 in
theorem sg_48 : (K_Ws_law_.1.drop 1623).take (gsh_Hii 1623 406 354).length = gsh_Hii 1623 406 354 := by decide +kernel
set_option maxRecDepth 100000 in
theorem sg_49 : (K_Ws_law_.1.drop 1668).take (gsh_Di 1668 170 355).length = gsh_Di 1668 170 355 := by decide +kernel
set_option maxRecDepth 100000 in
theorem sg_50 : (K_Ws_law_.1.drop 1685).take (gsh_D 1685 171 199).length = gsh_D 1685 171 199 := by decide +kernel
set_option maxRecDepth 100000 in
theorem sg_51 : (K_Ws_law_.1.drop 1692).take (gsh_V 1692 172 196).length = gsh_V 1692 172 196 := by decide +kernel
set_option maxRecDepth 100000 in
theorem sg_52 : (K_Ws_law_.1.drop 1697).take (gsh_D 1697 173 197).length = gsh_D 1697 173 197 := by decide +kernel
set_option maxRecDepth 100000 in
theorem sg_53 : (K_Ws_law_.1.drop 1704).take (gsh_Di 1704 174 356).length = gsh_Di 1704 174 356 := by decide +kernel
section CASES
variable {d q L0 N U : Nat} {t : MT} {i : MI} {r : MR} {A : AS} {Q : oR × aH → Prop} {w5 w6 : Value}
def CaseOK (d L0 q N U : Nat) (t : MT) (i : MI) (r : MR) (Q : oR × aH → Prop) (w5 w6 : Value) (pc : Nat) : Prop := KT d K_Ws_law_ Q L0 N U (nI (6 * q)) → Ex d K_Ws_law_ (pc, [.ref 1, .ref 1000, .ref 1638, .ref 1658, .int (nI (6 * q)), w5, w6], [], (N, U, t, i, r)) Q
set_option maxHeartbeats 1000000 in
theorem case_0 (hI : CInv N t i r A) (hM : MInv i A) (ht : t 1 = (100, L0)) (hq : 6 * q + 6 ≤ L0) (hL : L0 ≤ 3072) (hd : 300 ≤ d) : CaseOK (d + 1) L0 q N U t i r Q w5 w6 25 := fun hk =>
  sh_Diiiii (p := 25) (z := 121) (y := 222) (Z := K_Lc_feed) (Y := K_Mo_feed) (seg_of sg_0) hI hM ht hq hL rfl rfl rfl rfl (C_feed hI _ _ _ _ _ (by omega)) rfl rfl rfl (fun N' U' t' i' r' s' hS' hM' => M_feed s' hI.ok hM' _ _ _ _ _ (by omega)) (by omega) hk
set_option maxHeartbeats 1000000 in
theorem case_1 (hI : CInv N t i r A) (hM : MInv i A) (ht : t 1 = (100, L0)) (hq : 6 * q + 6 ≤ L0) (hL : L0 ≤ 3072) (hd : 300 ≤ d) : CaseOK (d + 1) L0 q N U t i r Q w5 w6 82 := fun hk =>
  sh_Di (p := 82) (z := 122) (y := 223) (Z := K_Lc_end) (Y := K_Mo_end) (seg_of sg_1) hI hM ht hq hL rfl rfl rfl rfl (C_end hI _ (by omega)) rfl rfl rfl (fun N' U' t' i' r' s' hS' hM' => M_end s' hI.ok hM' _ (by omega)) (by omega) hk
set_option maxHeartbeats 1000000 in
theorem case_2 (hI : CInv N t i r A) (hM : MInv i A) (ht : t 1 = (100, L0)) (hq : 6 * q + 6 ≤ L0) (hL : L0 ≤ 3072) (hd : 300 ≤ d) : CaseOK (d + 1) L0 q N U t i r Q w5 w6 99 := fun hk =>
  sh_H (p := 99) (z := 371) (y := 256) (Z := K_Ws_waters) (Y := K_Mo_waters) (seg_of sg_2) hI hM ht hq hL rfl rfl rfl rfl (h_waters hI.1 (C_waters hI hd) cd_waters) rfl rfl rfl (fun N' U' t' i' r' s' hS' hM' => M_waters s' hS' hI.ok hM' (by omega)) (by omega) hk
set_option maxHeartbeats 1000000 in
theorem case_3 (hI : CInv N t i r A) (hM : MInv i A) (ht : t 1 = (100, L0)) (hq : 6 * q + 6 ≤ L0) (hL : L0 ≤ 3072) (hd : 300 ≤ d) : CaseOK (d + 1) L0 q N U t i r Q w5 w6 124 := fun hk =>
  sh_H (p := 124) (z := 372) (y := 257) (Z := K_Ws_law) (Y := K_Mo_law) (seg_of sg_3) hI hM ht hq hL rfl rfl rfl rfl (h_law hI.1 (C_law hI hd) cd_law) rfl rfl rfl (fun N' U' t' i' r' s' hS' hM' => M_law s' hS' hI.ok hM' (by omega)) (by omega) hk
set_option maxHeartbeats 1000000 in
theorem case_4 (hI : CInv N t i r A) (hM : MInv i A) (ht : t 1 = (100, L0)) (hq : 6 * q + 6 ≤ L0) (hL : L0 ≤ 3072) (hd : 300 ≤ d) : CaseOK (d + 1) L0 q N U t i r Q w5 w6 149 := fun hk =>
  sh_D (p := 149) (z := 125) (y := 233) (Z := K_Lc_fault) (Y := K_Mo_fault) (seg_of sg_4) hI hM ht hq hL rfl rfl rfl rfl (C_fault hI (by omega)) rfl rfl rfl (fun N' U' t' i' r' s' hS' hM' => M_fault s' hI.ok hM' (by omega)) (by omega) hk
set_option maxHeartbeats 1000000 in
theorem case_5 (hI : CInv N t i r A) (hM : MInv i A) (ht : t 1 = (100, L0)) (hq : 6 * q + 6 ≤ L0) (hL : L0 ≤ 3072) (hd : 300 ≤ d) : CaseOK (d + 1) L0 q N U t i r Q w5 w6 156 := fun hk =>
  sh_Hii (p := 156) (z := 373) (y := 275) (Z := K_Ws_cell) (Y := K_Mo_cell) (seg_of sg_5) hI hM ht hq hL rfl rfl rfl rfl (h_cell hI.1 (C_cell hI _ _ hd) cd_cell) rfl rfl rfl (fun N' U' t' i' r' s' hS' hM' => M_cell s' hI.ok hM' _ _ (by omega)) (by omega) hk
set_option maxHeartbeats 1000000 in
theorem case_6 (hI : CInv N t i r A) (hM : MInv i A) (ht : t 1 = (100, L0)) (hq : 6 * q + 6 ≤ L0) (hL : L0 ≤ 3072) (hd : 300 ≤ d) : CaseOK (d + 1) L0 q N U t i r Q w5 w6 201 := fun hk =>
  sh_Hii (p := 201) (z := 374) (y := 280) (Z := K_Ws_fish) (Y := K_Mo_fish) (seg_of sg_6) hI hM ht hq hL rfl rfl rfl rfl (h_fish hI.1 (C_fish hI _ _ hd) cd_fish) rfl rfl rfl (fun N' U' t' i' r' s' hS' hM' => M_fish s' hI.ok hM' _ _ (by omega)) (by omega) hk
set_option maxHeartbeats 1000000 in
theorem case_7 (hI : CInv N t i r A) (hM : MInv i A) (ht : t 1 = (100, L0)) (hq : 6 * q + 6 ≤ L0) (hL : L0 ≤ 3072) (hd : 300 ≤ d) : CaseOK (d + 1) L0 q N U t i r Q w5 w6 246 := fun hk =>
  sh_Hii (p := 246) (z := 375) (y := 281) (Z := K_Ws_boat) (Y := K_Mo_boat) (seg_of sg_7) hI hM ht hq hL rfl rfl rfl rfl (h_boat hI.1 (C_boat hI _ _ hd) cd_boat) rfl rfl rfl (fun N' U' t' i' r' s' hS' hM' => M_boat s' hI.ok hM' _ _ (by omega)) (by omega) hk
set_option maxHeartbeats 1000000 in
theorem case_8 (hI : CInv N t i r A) (hM : MInv i A) (ht : t 1 = (100, L0)) (hq : 6 * q + 6 ≤ L0) (hL : L0 ≤ 3072) (hd : 300 ≤ d) : CaseOK (d + 1) L0 q N U t i r Q w5 w6 291 := fun hk =>
  sh_Hii (p := 291) (z := 376) (y := 283) (Z := K_Ws_buyer) (Y := K_Mo_buyer) (seg_of sg_8) hI hM ht hq hL rfl rfl rfl rfl (h_buyer hI.1 (C_buyer hI _ _ hd) cd_buyer) rfl rfl rfl (fun N' U' t' i' r' s' hS' hM' => M_buyer s' hI.ok hM' _ _ (by omega)) (by omega) hk
set_option maxHeartbeats 1000000 in
theorem case_9 (hI : CInv N t i r A) (hM : MInv i A) (ht : t 1 = (100, L0)) (hq : 6 * q + 6 ≤ L0) (hL : L0 ≤ 3072) (hd : 300 ≤ d) : CaseOK (d + 1) L0 q N U t i r Q w5 w6 336 := fun hk =>
  sh_Hii (p := 336) (z := 377) (y := 284) (Z := K_Ws_dead) (Y := K_Mo_dead) (seg_of sg_9) hI hM ht hq hL rfl rfl rfl rfl (h_dead hI.1 (C_dead hI _ _ hd) cd_dead) rfl rfl rfl (fun N' U' t' i' r' s' hS' hM' => M_dead s' hI.ok hM' _ _ (by omega)) (by omega) hk
set_option maxHeartbeats 1000000 in
theorem case_10 (hI : CInv N t i r A) (hM : MInv i A) (ht : t 1 = (100, L0)) (hq : 6 * q + 6 ≤ L0) (hL : L0 ≤ 3072) (hd : 300 ≤ d) : CaseOK (d + 1) L0 q N U t i r Q w5 w6 381 := fun hk =>
  sh_Hi (p := 381) (z := 378) (y := 285) (Z := K_Ws_days) (Y := K_Mo_days) (seg_of sg_10) hI hM ht hq hL rfl rfl rfl rfl (h_days hI.1 (C_days hI _ hd) cd_days) rfl rfl rfl (fun N' U' t' i' r' s' hS' hM' => M_days s' hI.ok hM' _ (by omega)) (by omega) hk
set_option maxHeartbeats 1000000 in
theorem case_11 (hI : CInv N t i r A) (hM : MInv i A) (ht : t 1 = (100, L0)) (hq : 6 * q + 6 ≤ L0) (hL : L0 ≤ 3072) (hd : 300 ≤ d) : CaseOK (d + 1) L0 q N U t i r Q w5 w6 416 := fun hk =>
  sh_Hii (p := 416) (z := 379) (y := 287) (Z := K_Ws_heads) (Y := K_Mo_heads) (seg_of sg_11) hI hM ht hq hL rfl rfl rfl rfl (h_heads hI.1 (C_heads hI _ _ hd) cd_heads) rfl rfl rfl (fun N' U' t' i' r' s' hS' hM' => M_heads s' hI.ok hM' _ _ (by omega)) (by omega) hk
set_option maxHeartbeats 1000000 in
theorem case_12 (hI : CInv N t i r A) (hM : MInv i A) (ht : t 1 = (100, L0)) (hq : 6 * q + 6 ≤ L0) (hL : L0 ≤ 3072) (hd : 300 ≤ d) : CaseOK (d + 1) L0 q N U t i r Q w5 w6 461 := fun hk =>
  sh_Hi (p := 461) (z := 380) (y := 288) (Z := K_Ws_ice) (Y := K_Mo_ice) (seg_of sg_12) hI hM ht hq hL rfl rfl rfl rfl (h_ice hI.1 (C_ice hI _ hd) cd_ice) rfl rfl rfl (fun N' U' t' i' r' s' hS' hM' => M_ice s' hI.ok hM' _ (by omega)) (by omega) hk
set_option maxHeartbeats 1000000 in
theorem case_13 (hI : CInv N t i r A) (hM : MInv i A) (ht : t 1 = (100, L0)) (hq : 6 * q + 6 ≤ L0) (hL : L0 ≤ 3072) (hd : 300 ≤ d) : CaseOK (d + 1) L0 q N U t i r Q w5 w6 496 := fun hk =>
  sh_Hii (p := 496) (z := 381) (y := 289) (Z := K_Ws_sponge) (Y := K_Mo_sponge) (seg_of sg_13) hI hM ht hq hL rfl rfl rfl rfl (h_sponge hI.1 (C_sponge hI _ _ hd) cd_sponge) rfl rfl rfl (fun N' U' t' i' r' s' hS' hM' => M_sponge s' hI.ok hM' _ _ (by omega)) (by omega) hk
set_option maxHeartbeats 1000000 in
theorem case_14 (hI : CInv N t i r A) (hM : MInv i A) (ht : t 1 = (100, L0)) (hq : 6 * q + 6 ≤ L0) (hL : L0 ≤ 3072) (hd : 300 ≤ d) : CaseOK (d + 1) L0 q N U t i r Q w5 w6 541 := fun hk =>
  sh_Hii (p := 541) (z := 382) (y := 290) (Z := K_Ws_pay) (Y := K_Mo_pay) (seg_of sg_14) hI hM ht hq hL rfl rfl rfl rfl (h_pay hI.1 (C_pay hI _ _ hd) cd_pay) rfl rfl rfl (fun N' U' t' i' r' s' hS' hM' => M_pay s' hI.ok hM' _ _ (by omega)) (by omega) hk
set_option maxHeartbeats 1000000 in
theorem case_15 (hI : CInv N t i r A) (hM : MInv i A) (ht : t 1 = (100, L0)) (hq : 6 * q + 6 ≤ L0) (hL : L0 ≤ 3072) (hd : 300 ≤ d) : CaseOK (d + 1) L0 q N U t i r Q w5 w6 586 := fun hk =>
  sh_Hiii (p := 586) (z := 383) (y := 291) (Z := K_Ws_tell) (Y := K_Mo_tell) (seg_of sg_15) hI hM ht hq hL rfl rfl rfl rfl (h_tell hI.1 (C_tell hI _ _ _ hd) cd_tell) rfl rfl rfl (fun N' U' t' i' r' s' hS' hM' => M_tell s' hI.ok hM' _ _ _ (by omega)) (by omega) hk
set_option maxHeartbeats 1000000 in
theorem case_16 (hI : CInv N t i r A) (hM : MInv i A) (ht : t 1 = (100, L0)) (hq : 6 * q + 6 ≤ L0) (hL : L0 ≤ 3072) (hd : 300 ≤ d) : CaseOK (d + 1) L0 q N U t i r Q w5 w6 641 := fun hk =>
  sh_Hi (p := 641) (z := 384) (y := 292) (Z := K_Ws_release) (Y := K_Mo_release) (seg_of sg_16) hI hM ht hq hL rfl rfl rfl rfl (h_release hI.1 (C_release hI _ hd) cd_release) rfl rfl rfl (fun N' U' t' i' r' s' hS' hM' => M_release s' hI.ok hM' _ (by omega)) (by omega) hk
set_option maxHeartbeats 1000000 in
theorem case_17 (hI : CInv N t i r A) (hM : MInv i A) (ht : t 1 = (100, L0)) (hq : 6 * q + 6 ≤ L0) (hL : L0 ≤ 3072) (hd : 300 ≤ d) : CaseOK (d + 1) L0 q N U t i r Q w5 w6 676 := fun hk =>
  sh_Hii (p := 676) (z := 385) (y := 293) (Z := K_Ws_current) (Y := K_Mo_current) (seg_of sg_17) hI hM ht hq hL rfl rfl rfl rfl (h_current hI.1 (C_current hI _ _ hd) cd_current) rfl rfl rfl (fun N' U' t' i' r' s' hS' hM' => M_current s' hI.ok hM' _ _ (by omega)) (by omega) hk
set_option maxHeartbeats 1000000 in
theorem case_18 (hI : CInv N t i r A) (hM : MInv i A) (ht : t 1 = (100, L0)) (hq : 6 * q + 6 ≤ L0) (hL : L0 ≤ 3072) (hd : 300 ≤ d) : CaseOK (d + 1) L0 q N U t i r Q w5 w6 721 := fun hk =>
  sh_Hii (p := 721) (z := 386) (y := 294) (Z := K_Ws_sell) (Y := K_Mo_sell) (seg_of sg_18) hI hM ht hq hL rfl rfl rfl rfl (h_sell hI.1 (C_sell hI _ _ hd) cd_sell) rfl rfl rfl (fun N' U' t' i' r' s' hS' hM' => M_sell s' hI.ok hM' _ _ (by omega)) (by omega) hk
set_option maxHeartbeats 1000000 in
theorem case_19 (hI : CInv N t i r A) (hM : MInv i A) (ht : t 1 = (100, L0)) (hq : 6 * q + 6 ≤ L0) (hL : L0 ≤ 3072) (hd : 300 ≤ d) : CaseOK (d + 1) L0 q N U t i r Q w5 w6 766 := fun hk =>
  sh_Hii (p := 766) (z := 387) (y := 296) (Z := K_Ws_where) (Y := K_Mo_where) (seg_of sg_19) hI hM ht hq hL rfl rfl rfl rfl (h_where hI.1 (C_where hI _ _ hd) cd_where) rfl rfl rfl (fun N' U' t' i' r' s' hS' hM' => M_where s' hI.ok hM' _ _ (by omega)) (by omega) hk
set_option maxHeartbeats 1000000 in
theorem case_20 (hI : CInv N t i r A) (hM : MInv i A) (ht : t 1 = (100, L0)) (hq : 6 * q + 6 ≤ L0) (hL : L0 ≤ 3072) (hd : 300 ≤ d) : CaseOK (d + 1) L0 q N U t i r Q w5 w6 811 := fun hk =>
  sh_Hii (p := 811) (z := 388) (y := 299) (Z := K_Ws_meets) (Y := K_Mo_meets) (seg_of sg_20) hI hM ht hq hL rfl rfl rfl rfl (h_meets hI.1 (C_meets hI _ _ hd) cd_meets) rfl rfl rfl (fun N' U' t' i' r' s' hS' hM' => M_meets s' hI.ok hM' _ _ (by omega)) (by omega) hk
set_option maxHeartbeats 1000000 in
theorem case_21 (hI : CInv N t i r A) (hM : MInv i A) (ht : t 1 = (100, L0)) (hq : 6 * q + 6 ≤ L0) (hL : L0 ≤ 3072) (hd : 300 ≤ d) : CaseOK (d + 1) L0 q N U t i r Q w5 w6 856 := fun hk =>
  sh_D (p := 856) (z := 142) (y := 300) (Z := K_Lc_lost) (Y := K_Mo_lost) (seg_of sg_21) hI hM ht hq hL rfl rfl rfl rfl (C_lost hI (by omega)) rfl rfl rfl (fun N' U' t' i' r' s' hS' hM' => M_lost s' hI.ok hM' (by omega)) (by omega) hk
set_option maxHeartbeats 1000000 in
theorem case_22 (hI : CInv N t i r A) (hM : MInv i A) (ht : t 1 = (100, L0)) (hq : 6 * q + 6 ≤ L0) (hL : L0 ≤ 3072) (hd : 300 ≤ d) : CaseOK (d + 1) L0 q N U t i r Q w5 w6 863 := fun hk =>
  sh_Hii (p := 863) (z := 389) (y := 306) (Z := K_Ws_haul) (Y := K_Mo_haul) (seg_of sg_22) hI hM ht hq hL rfl rfl rfl rfl (h_haul hI.1 (C_haul hI _ _ hd) cd_haul) rfl rfl rfl (fun N' U' t' i' r' s' hS' hM' => M_haul s' hI.ok hM' _ _ (by omega)) (by omega) hk
set_option maxHeartbeats 1000000 in
theorem case_23 (hI : CInv N t i r A) (hM : MInv i A) (ht : t 1 = (100, L0)) (hq : 6 * q + 6 ≤ L0) (hL : L0 ≤ 3072) (hd : 300 ≤ d) : CaseOK (d + 1) L0 q N U t i r Q w5 w6 908 := fun hk =>
  sh_Hii (p := 908) (z := 390) (y := 307) (Z := K_Ws_first) (Y := K_Mo_first) (seg_of sg_23) hI hM ht hq hL rfl rfl rfl rfl (h_first hI.1 (C_first hI _ _ hd) cd_first) rfl rfl rfl (fun N' U' t' i' r' s' hS' hM' => M_first s' hI.ok hM' _ _ (by omega)) (by omega) hk
set_option maxHeartbeats 1000000 in
theorem case_24 (hI : CInv N t i r A) (hM : MInv i A) (ht : t 1 = (100, L0)) (hq : 6 * q + 6 ≤ L0) (hL : L0 ≤ 3072) (hd : 300 ≤ d) : CaseOK (d + 1) L0 q N U t i r Q w5 w6 953 := fun hk =>
  sh_D (p := 953) (z := 145) (y := 309) (Z := K_Lc_eddy) (Y := K_Mo_eddy) (seg_of sg_24) hI hM ht hq hL rfl rfl rfl rfl (C_eddy hI (by omega)) rfl rfl rfl (fun N' U' t' i' r' s' hS' hM' => M_eddy s' hI.ok hM' (by omega)) (by omega) hk
set_option maxHeartbeats 1000000 in
theorem case_25 (hI : CInv N t i r A) (hM : MInv i A) (ht : t 1 = (100, L0)) (hq : 6 * q + 6 ≤ L0) (hL : L0 ≤ 3072) (hd : 300 ≤ d) : CaseOK (d + 1) L0 q N U t i r Q w5 w6 960 := fun hk =>
  sh_Hi (p := 960) (z := 391) (y := 313) (Z := K_Ws_whose) (Y := K_Mo_whose) (seg_of sg_25) hI hM ht hq hL rfl rfl rfl rfl (h_whose hI.1 (C_whose hI _ hd) cd_whose) rfl rfl rfl (fun N' U' t' i' r' s' hS' hM' => M_whose s' hI.ok hM' _ (by omega)) (by omega) hk
set_option maxHeartbeats 1000000 in
theorem case_26 (hI : CInv N t i r A) (hM : MInv i A) (ht : t 1 = (100, L0)) (hq : 6 * q + 6 ≤ L0) (hL : L0 ≤ 3072) (hd : 300 ≤ d) : CaseOK (d + 1) L0 q N U t i r Q w5 w6 995 := fun hk =>
  sh_Hi (p := 995) (z := 392) (y := 315) (Z := K_Ws_parted) (Y := K_Mo_parted) (seg_of sg_26) hI hM ht hq hL rfl rfl rfl rfl (h_parted hI.1 (C_parted hI _ hd) cd_parted) rfl rfl rfl (fun N' U' t' i' r' s' hS' hM' => M_parted s' hI.ok hM' _ (by omega)) (by omega) hk
set_option maxHeartbeats 1000000 in
theorem case_27 (hI : CInv N t i r A) (hM : MInv i A) (ht : t 1 = (100, L0)) (hq : 6 * q + 6 ≤ L0) (hL : L0 ≤ 3072) (hd : 300 ≤ d) : CaseOK (d + 1) L0 q N U t i r Q w5 w6 1030 := fun hk =>
  sh_Hi (p := 1030) (z := 393) (y := 316) (Z := K_Ws_fewest) (Y := K_Mo_fewest) (seg_of sg_27) hI hM ht hq hL rfl rfl rfl rfl (h_fewest hI.1 (C_fewest hI _ hd) cd_fewest) rfl rfl rfl (fun N' U' t' i' r' s' hS' hM' => M_fewest s' hI.ok hM' _ (by omega)) (by omega) hk
set_option maxHeartbeats 1000000 in
theorem case_28 (hI : CInv N t i r A) (hM : MInv i A) (ht : t 1 = (100, L0)) (hq : 6 * q + 6 ≤ L0) (hL : L0 ≤ 3072) (hd : 300 ≤ d) : CaseOK (d + 1) L0 q N U t i r Q w5 w6 1065 := fun hk =>
  sh_Hb (p := 1065) (z := 394) (y := 320) (Z := K_Ws_turned) (Y := K_Mo_turned) (seg_of sg_28) hI hM ht hq hL rfl rfl rfl rfl (h_turned hI.1 (C_turned hI _ hd) cd_turned) rfl rfl rfl (fun N' U' t' i' r' s' hS' hM' => M_turned s' hI.ok hM' _ (by omega)) (by omega) hk
set_option maxHeartbeats 1000000 in
theorem case_29 (hI : CInv N t i r A) (hM : MInv i A) (ht : t 1 = (100, L0)) (hq : 6 * q + 6 ≤ L0) (hL : L0 ≤ 3072) (hd : 300 ≤ d) : CaseOK (d + 1) L0 q N U t i r Q w5 w6 1108 := fun hk =>
  sh_H (p := 1108) (z := 395) (y := 322) (Z := K_Ws_ask) (Y := K_Mo_ask) (seg_of sg_29) hI hM ht hq hL rfl rfl rfl rfl (h_ask hI.1 (C_ask hI hd) cd_ask) rfl rfl rfl (fun N' U' t' i' r' s' hS' hM' => M_ask s' hI.ok hM' (by omega)) (by omega) hk
set_option maxHeartbeats 1000000 in
theorem case_30 (hI : CInv N t i r A) (hM : MInv i A) (ht : t 1 = (100, L0)) (hq : 6 * q + 6 ≤ L0) (hL : L0 ≤ 3072) (hd : 300 ≤ d) : CaseOK (d + 1) L0 q N U t i r Q w5 w6 1133 := fun hk =>
  sh_Hi (p := 1133) (z := 396) (y := 325) (Z := K_Ws_sale) (Y := K_Mo_sale) (seg_of sg_30) hI hM ht hq hL rfl rfl rfl rfl (h_sale hI.1 (C_sale hI _ hd) cd_sale) rfl rfl rfl (fun N' U' t' i' r' s' hS' hM' => M_sale s' hI.ok hM' _ (by omega)) (by omega) hk
set_option maxHeartbeats 1000000 in
theorem case_31 (hI : CInv N t i r A) (hM : MInv i A) (ht : t 1 = (100, L0)) (hq : 6 * q + 6 ≤ L0) (hL : L0 ≤ 3072) (hd : 300 ≤ d) : CaseOK (d + 1) L0 q N U t i r Q w5 w6 1168 := fun hk =>
  sh_D (p := 1168) (z := 152) (y := 326) (Z := K_Lc_without) (Y := K_Mo_without) (seg_of sg_31) hI hM ht hq hL rfl rfl rfl rfl (C_without hI (by omega)) rfl rfl rfl (fun N' U' t' i' r' s' hS' hM' => M_without s' hI.ok hM' (by omega)) (by omega) hk
set_option maxHeartbeats 1000000 in
theorem case_32 (hI : CInv N t i r A) (hM : MInv i A) (ht : t 1 = (100, L0)) (hq : 6 * q + 6 ≤ L0) (hL : L0 ≤ 3072) (hd : 300 ≤ d) : CaseOK (d + 1) L0 q N U t i r Q w5 w6 1175 := fun hk =>
  sh_Di (p := 1175) (z := 153) (y := 329) (Z := K_Lc_order) (Y := K_Mo_order) (seg_of sg_32) hI hM ht hq hL rfl rfl rfl rfl (C_order hI _ (by omega)) rfl rfl rfl (fun N' U' t' i' r' s' hS' hM' => M_order s' hI.ok hM' _ (by omega)) (by omega) hk
set_option maxHeartbeats 1000000 in
theorem case_33 (hI : CInv N t i r A) (hM : MInv i A) (ht : t 1 = (100, L0)) (hq : 6 * q + 6 ≤ L0) (hL : L0 ≤ 3072) (hd : 300 ≤ d) : CaseOK (d + 1) L0 q N U t i r Q w5 w6 1192 := fun hk =>
  sh_Hii (p := 1192) (z := 397) (y := 333) (Z := K_Ws_chase) (Y := K_Mo_chase) (seg_of sg_33) hI hM ht hq hL rfl rfl rfl rfl (h_chase hI.1 (C_chase hI _ _ hd) cd_chase) rfl rfl rfl (fun N' U' t' i' r' s' hS' hM' => M_chase s' hI.ok hM' _ _ (by omega)) (by omega) hk
set_option maxHeartbeats 1000000 in
theorem case_34 (hI : CInv N t i r A) (hM : MInv i A) (ht : t 1 = (100, L0)) (hq : 6 * q + 6 ≤ L0) (hL : L0 ≤ 3072) (hd : 300 ≤ d) : CaseOK (d + 1) L0 q N U t i r Q w5 w6 1237 := fun hk =>
  sh_Hi (p := 1237) (z := 398) (y := 337) (Z := K_Ws_pairs) (Y := K_Mo_pairs) (seg_of sg_34) hI hM ht hq hL rfl rfl rfl rfl (h_pairs hI.1 (C_pairs hI _ hd) cd_pairs) rfl rfl rfl (fun N' U' t' i' r' s' hS' hM' => M_pairs s' hI.ok hM' _ (by omega)) (by omega) hk
set_option maxHeartbeats 1000000 in
theorem case_35 (hI : CInv N t i r A) (hM : MInv i A) (ht : t 1 = (100, L0)) (hq : 6 * q + 6 ≤ L0) (hL : L0 ≤ 3072) (hd : 300 ≤ d) : CaseOK (d + 1) L0 q N U t i r Q w5 w6 1272 := fun hk =>
  sh_Hii (p := 1272) (z := 399) (y := 340) (Z := K_Ws_rests) (Y := K_Mo_rests) (seg_of sg_35) hI hM ht hq hL rfl rfl rfl rfl (h_rests hI.1 (C_rests hI _ _ hd) cd_rests) rfl rfl rfl (fun N' U' t' i' r' s' hS' hM' => M_rests s' hI.ok hM' _ _ (by omega)) (by omega) hk
set_option maxHeartbeats 1000000 in
theorem case_36 (hI : CInv N t i r A) (hM : MInv i A) (ht : t 1 = (100, L0)) (hq : 6 * q + 6 ≤ L0) (hL : L0 ≤ 3072) (hd : 300 ≤ d) : CaseOK (d + 1) L0 q N U t i r Q w5 w6 1317 := fun hk =>
  sh_Hi (p := 1317) (z := 400) (y := 341) (Z := K_Ws_odds) (Y := K_Mo_odds) (seg_of sg_36) hI hM ht hq hL rfl rfl rfl rfl (h_odds hI.1 (C_odds hI _ hd) cd_odds) rfl rfl rfl (fun N' U' t' i' r' s' hS' hM' => M_odds s' hI.ok hM' _ (by omega)) (by omega) hk
set_option maxHeartbeats 1000000 in
theorem case_37 (hI : CInv N t i r A) (hM : MInv i A) (ht : t 1 = (100, L0)) (hq : 6 * q + 6 ≤ L0) (hL : L0 ≤ 3072) (hd : 300 ≤ d) : CaseOK (d + 1) L0 q N U t i r Q w5 w6 1352 := fun hk =>
  sh_D (p := 1352) (z := 158) (y := 342) (Z := K_Lc_freshest) (Y := K_Mo_freshest) (seg_of sg_37) hI hM ht hq hL rfl rfl rfl rfl (C_freshest hI (by omega)) rfl rfl rfl (fun N' U' t' i' r' s' hS' hM' => M_freshest s' hI.ok hM' (by omega)) (by omega) hk
set_option maxHeartbeats 1000000 in
theorem case_38 (hI : CInv N t i r A) (hM : MInv i A) (ht : t 1 = (100, L0)) (hq : 6 * q + 6 ≤ L0) (hL : L0 ≤ 3072) (hd : 300 ≤ d) : CaseOK (d + 1) L0 q N U t i r Q w5 w6 1359 := fun hk =>
  sh_D (p := 1359) (z := 159) (y := 343) (Z := K_Lc_dearest) (Y := K_Mo_dearest) (seg_of sg_38) hI hM ht hq hL rfl rfl rfl rfl (C_dearest hI (by omega)) rfl rfl rfl (fun N' U' t' i' r' s' hS' hM' => M_dearest s' hI.ok hM' (by omega)) (by omega) hk
set_option maxHeartbeats 1000000 in
theorem case_39 (hI : CInv N t i r A) (hM : MInv i A) (ht : t 1 = (100, L0)) (hq : 6 * q + 6 ≤ L0) (hL : L0 ≤ 3072) (hd : 300 ≤ d) : CaseOK (d + 1) L0 q N U t i r Q w5 w6 1366 := fun hk =>
  sh_Hi (p := 1366) (z := 401) (y := 344) (Z := K_Ws_kind) (Y := K_Mo_kind) (seg_of sg_39) hI hM ht hq hL rfl rfl rfl rfl (h_kind hI.1 (C_kind hI _ hd) cd_kind) rfl rfl rfl (fun N' U' t' i' r' s' hS' hM' => M_kind s' hI.ok hM' _ (by omega)) (by omega) hk
set_option maxHeartbeats 1000000 in
theorem case_40 (hI : CInv N t i r A) (hM : MInv i A) (ht : t 1 = (100, L0)) (hq : 6 * q + 6 ≤ L0) (hL : L0 ≤ 3072) (hd : 300 ≤ d) : CaseOK (d + 1) L0 q N U t i r Q w5 w6 1401 := fun hk =>
  sh_D (p := 1401) (z := 161) (y := 345) (Z := K_Lc_twins) (Y := K_Mo_twins) (seg_of sg_40) hI hM ht hq hL rfl rfl rfl rfl (C_twins hI (by omega)) rfl rfl rfl (fun N' U' t' i' r' s' hS' hM' => M_twins s' hI.ok hM' (by omega)) (by omega) hk
set_option maxHeartbeats 1000000 in
theorem case_41 (hI : CInv N t i r A) (hM : MInv i A) (ht : t 1 = (100, L0)) (hq : 6 * q + 6 ≤ L0) (hL : L0 ≤ 3072) (hd : 300 ≤ d) : CaseOK (d + 1) L0 q N U t i r Q w5 w6 1408 := fun hk =>
  sh_D (p := 1408) (z := 162) (y := 346) (Z := K_Lc_slab) (Y := K_Mo_slab) (seg_of sg_41) hI hM ht hq hL rfl rfl rfl rfl (C_slab hI (by omega)) rfl rfl rfl (fun N' U' t' i' r' s' hS' hM' => M_slab s' hI.ok hM' (by omega)) (by omega) hk
set_option maxHeartbeats 1000000 in
theorem case_42 (hI : CInv N t i r A) (hM : MInv i A) (ht : t 1 = (100, L0)) (hq : 6 * q + 6 ≤ L0) (hL : L0 ≤ 3072) (hd : 300 ≤ d) : CaseOK (d + 1) L0 q N U t i r Q w5 w6 1415 := fun hk =>
  sh_D (p := 1415) (z := 163) (y := 347) (Z := K_Lc_sea) (Y := K_Mo_sea) (seg_of sg_42) hI hM ht hq hL rfl rfl rfl rfl (C_sea hI (by omega)) rfl rfl rfl (fun N' U' t' i' r' s' hS' hM' => M_sea s' hI.ok hM' (by omega)) (by omega) hk
set_option maxHeartbeats 1000000 in
theorem case_43 (hI : CInv N t i r A) (hM : MInv i A) (ht : t 1 = (100, L0)) (hq : 6 * q + 6 ≤ L0) (hL : L0 ≤ 3072) (hd : 300 ≤ d) : CaseOK (d + 1) L0 q N U t i r Q w5 w6 1422 := fun hk =>
  sh_D (p := 1422) (z := 164) (y := 348) (Z := K_Lc_gone) (Y := K_Mo_gone) (seg_of sg_43) hI hM ht hq hL rfl rfl rfl rfl (C_gone hI (by omega)) rfl rfl rfl (fun N' U' t' i' r' s' hS' hM' => M_gone s' hI.ok hM' (by omega)) (by omega) hk
set_option maxHeartbeats 1000000 in
theorem case_44 (hI : CInv N t i r A) (hM : MInv i A) (ht : t 1 = (100, L0)) (hq : 6 * q + 6 ≤ L0) (hL : L0 ≤ 3072) (hd : 300 ≤ d) : CaseOK (d + 1) L0 q N U t i r Q w5 w6 1429 := fun hk =>
  sh_Hi (p := 1429) (z := 402) (y := 349) (Z := K_Ws_spoils) (Y := K_Mo_spoils) (seg_of sg_44) hI hM ht hq hL rfl rfl rfl rfl (h_spoils hI.1 (C_spoils hI _ hd) cd_spoils) rfl rfl rfl (fun N' U' t' i' r' s' hS' hM' => M_spoils s' hI.ok hM' _ (by omega)) (by omega) hk
set_option maxHeartbeats 1000000 in
theorem case_45 (hI : CInv N t i r A) (hM : MInv i A) (ht : t 1 = (100, L0)) (hq : 6 * q + 6 ≤ L0) (hL : L0 ≤ 3072) (hd : 300 ≤ d) : CaseOK (d + 1) L0 q N U t i r Q w5 w6 1464 := fun hk =>
  sh_Hib (p := 1464) (z := 403) (y := 350) (Z := K_Ws_trial) (Y := K_Mo_trial) (seg_of sg_45) hI hM ht hq hL rfl rfl rfl rfl (h_trial hI.1 (C_trial hI _ _ hd) cd_trial) rfl rfl rfl (fun N' U' t' i' r' s' hS' hM' => M_trial s' hI.ok hM' _ _ (by omega)) (by omega) hk
set_option maxHeartbeats 1000000 in
theorem case_46 (hI : CInv N t i r A) (hM : MInv i A) (ht : t 1 = (100, L0)) (hq : 6 * q + 6 ≤ L0) (hL : L0 ≤ 3072) (hd : 300 ≤ d) : CaseOK (d + 1) L0 q N U t i r Q w5 w6 1517 := fun hk =>
  sh_Hib (p := 1517) (z := 404) (y := 351) (Z := K_Ws_span) (Y := K_Mo_span) (seg_of sg_46) hI hM ht hq hL rfl rfl rfl rfl (h_span hI.1 (C_span hI _ _ hd) cd_span) rfl rfl rfl (fun N' U' t' i' r' s' hS' hM' => M_span s' hI.ok hM' _ _ (by omega)) (by omega) hk
set_option maxHeartbeats 1000000 in
theorem case_47 (hI : CInv N t i r A) (hM : MInv i A) (ht : t 1 = (100, L0)) (hq : 6 * q + 6 ≤ L0) (hL : L0 ≤ 3072) (hd : 300 ≤ d) : CaseOK (d + 1) L0 q N U t i r Q w5 w6 1570 := fun hk =>
  sh_Hib (p := 1570) (z := 405) (y := 353) (Z := K_Ws_led) (Y := K_Mo_led) (seg_of sg_47) hI hM ht hq hL rfl rfl rfl rfl (h_led hI.1 (C_led hI _ _ hd) cd_led) rfl rfl rfl (fun N' U' t' i' r' s' hS' hM' => M_led s' hI.ok hM' _ _ (by omega)) (by omega) hk
set_option maxHeartbeats 1000000 in
theorem case_48 (hI : CInv N t i r A) (hM : MInv i A) (ht : t 1 = (100, L0)) (hq : 6 * q + 6 ≤ L0) (hL : L0 ≤ 3072) (hd : 300 ≤ d) : CaseOK (d + 1) L0 q N U t i r Q w5 w6 1623 := fun hk =>
  sh_Hii (p := 1623) (z := 406) (y := 354) (Z := K_Ws_log) (Y := K_Mo_log) (seg_of sg_48) hI hM ht hq hL rfl rfl rfl rfl (h_log hI.1 (C_log hI _ _ hd) cd_log) rfl rfl rfl (fun N' U' t' i' r' s' hS' hM' => M_log s' hI.ok hM' _ _ (by omega)) (by omega) hk
set_option maxHeartbeats 1000000 in
theorem case_49 (hI : CInv N t i r A) (hM : MInv i A) (ht : t 1 = (100, L0)) (hq : 6 * q + 6 ≤ L0) (hL : L0 ≤ 3072) (hd : 300 ≤ d) : CaseOK (d + 1) L0 q N U t i r Q w5 w6 1668 := fun hk =>
  sh_Di (p := 1668) (z := 170) (y := 355) (Z := K_Lc_seed) (Y := K_Mo_seed) (seg_of sg_49) hI hM ht hq hL rfl rfl rfl rfl (C_seed hI _ (by omega)) rfl rfl rfl (fun N' U' t' i' r' s' hS' hM' => M_seed s' hI.ok hM' _ (by omega)) (by omega) hk
set_option maxHeartbeats 1000000 in
theorem case_50 (hI : CInv N t i r A) (hM : MInv i A) (ht : t 1 = (100, L0)) (hq : 6 * q + 6 ≤ L0) (hL : L0 ≤ 3072) (hd : 300 ≤ d) : CaseOK (d + 1) L0 q N U t i r Q w5 w6 1685 := fun hk =>
  sh_D (p := 1685) (z := 171) (y := 199) (Z := K_Lc_undo) (Y := K_Mo_undo) (seg_of sg_50) hI hM ht hq hL rfl rfl rfl rfl (C_undo hI (by omega)) rfl rfl rfl (fun N' U' t' i' r' s' hS' hM' => M_undo s' hI.ok hM' (by omega)) (by omega) hk
set_option maxHeartbeats 1000000 in
theorem case_51 (hI : CInv N t i r A) (hM : MInv i A) (ht : t 1 = (100, L0)) (hq : 6 * q + 6 ≤ L0) (hL : L0 ≤ 3072) (hd : 300 ≤ d) : CaseOK (d + 1) L0 q N U t i r Q w5 w6 1692 := fun hk =>
  sh_V (p := 1692) (z := 172) (y := 196) (Z := K_Lc_image) (Y := K_Mo_image) (seg_of sg_51) hI hM ht hq hL rfl rfl rfl rfl (C_image hI (by omega)) rfl rfl rfl (fun N' U' t' i' r' s' hS' hM' => M_image s' hI.ok hM' (by omega)) (by omega) hk
set_option maxHeartbeats 1000000 in
theorem case_52 (hI : CInv N t i r A) (hM : MInv i A) (ht : t 1 = (100, L0)) (hq : 6 * q + 6 ≤ L0) (hL : L0 ≤ 3072) (hd : 300 ≤ d) : CaseOK (d + 1) L0 q N U t i r Q w5 w6 1697 := fun hk =>
  sh_D (p := 1697) (z := 173) (y := 197) (Z := K_Lc_back) (Y := K_Mo_back) (seg_of sg_52) hI hM ht hq hL rfl rfl rfl rfl (C_back hI (by omega)) rfl rfl rfl (fun N' U' t' i' r' s' hS' hM' => M_back s' hI.ok hM' (by omega)) (by omega) hk
set_option maxHeartbeats 1000000 in
theorem case_53 (hI : CInv N t i r A) (hM : MInv i A) (ht : t 1 = (100, L0)) (hq : 6 * q + 6 ≤ L0) (hL : L0 ≤ 3072) (hd : 300 ≤ d) : CaseOK (d + 1) L0 q N U t i r Q w5 w6 1704 := fun hk =>
  sh_Di (p := 1704) (z := 174) (y := 356) (Z := K_Lc_count) (Y := K_Mo_count) (seg_of sg_53) hI hM ht hq hL rfl rfl rfl rfl (C_count hI _ (by omega)) rfl rfl rfl (fun N' U' t' i' r' s' hS' hM' => M_count s' hI.ok hM' _ (by omega)) (by omega) hk
end CASES
