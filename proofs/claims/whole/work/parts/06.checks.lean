/-! ===== the program is the class files': checks (written by wip/gen/checks.py) ===== -/
noncomputable def Ys_0 : List (Nat) := [369, 51, 366, 50, 364, 367, 47, 368, 371, 110, 362, 361, 363, 84, 86, 372, 29, 370, 373, 175, 374, 375, 376, 377, 378, 180, 379, 380, 381, 382, 383, 176, 384, 385, 386, 387, 388, 389, 390, 391, 41, 392, 393, 394, 12, 395, 396, 397, 398, 102, 399, 189, 190, 400, 401, 402, 403, 404, 405, 406, 206, 208, 210, 194, 215, 193, 220, 295, 297, 303, 311, 314, 318, 323, 330, 334, 365]
noncomputable def Ys : List (Nat) := Ys_0
noncomputable def Yi_0 : List (Nat) := [120, 45, 30, 17, 34, 105, 79, 21, 0, 38, 93, 10, 121, 106, 107, 122, 125, 142, 186, 68, 52, 145, 152, 64, 63, 55, 19, 20, 153, 97, 62, 99, 98, 100, 158, 65, 159, 161, 162, 163, 164, 170, 171, 37, 46, 33, 172, 173, 35, 174, 58, 123, 80, 108, 109, 119, 115, 113, 111, 81, 112, 357, 359, 358, 360, 82, 118, 83, 114, 88, 85, 116, 87, 48, 49, 89, 90, 91, 92, 124, 22, 23, 25, 26, 24, 117, 27, 28, 18, 126, 54, 53, 127, 177, 57, 185, 69, 70, 71, 56]
noncomputable def Yi_1 : List (Nat) := [31, 72, 73, 74, 75, 76, 78, 77, 61, 60, 128, 178, 129, 179, 187, 130, 131, 36, 132, 133, 134, 181, 135, 136, 137, 138, 139, 140, 183, 141, 143, 1, 2, 3, 4, 5, 144, 146, 39, 40, 67, 43, 44, 42, 147, 188, 148, 59, 149, 182, 11, 13, 14, 150, 15, 16, 151, 94, 95, 96, 154, 6, 7, 8, 9, 155, 101, 103, 66, 104, 156, 157, 160, 165, 166, 184, 167, 168, 32, 169, 191, 195, 196, 197, 199, 222, 223, 233, 256, 255, 234, 225, 224, 254, 226, 244, 227, 237, 230, 236]
noncomputable def Yi_2 : List (Nat) := [240, 202, 238, 231, 232, 228, 239, 241, 203, 242, 204, 243, 205, 235, 253, 252, 251, 250, 229, 245, 249, 248, 247, 246, 192, 257, 275, 221, 274, 207, 273, 280, 216, 276, 209, 261, 260, 259, 258, 213, 262, 277, 200, 271, 265, 266, 214, 264, 263, 267, 219, 211, 269, 268, 270, 201, 279, 278, 212, 281, 217, 283, 218, 282, 284, 285, 198, 272, 287, 286, 288, 289, 290, 291, 292, 293, 294, 296, 299, 298, 300, 306, 305, 304, 301, 302, 307, 309, 308, 313, 312, 310, 315, 316, 320, 317, 319, 322, 321, 325]
noncomputable def Yi_3 : List (Nat) := [324, 326, 329, 328, 327, 333, 332, 331, 337, 336, 335, 340, 338, 339, 341, 342, 343, 344, 345, 346, 347, 348, 349, 350, 351, 353, 352, 354, 355, 356]
noncomputable def Yi : List (Nat) := Yi_0 ++ (Yi_1 ++ (Yi_2 ++ (Yi_3)))
noncomputable def Ye_0 : List (Nat) := [186, 20, 99, 98, 100, 81, 82, 83, 88, 85, 87, 89, 90, 91, 92, 23, 25, 26, 24, 27, 28, 177, 185, 70, 71, 72, 73, 74, 75, 76, 78, 178, 179, 187, 181, 183, 2, 3, 4, 5, 40, 43, 44, 42, 188, 182, 14, 16, 95, 96, 7, 8, 9, 103, 104, 184, 255, 234, 225, 224, 254, 226, 244, 227, 237, 230, 236, 240, 202, 238, 231, 232, 228, 239, 241, 203, 242, 204, 243, 205, 235, 253, 252, 251, 250, 229, 245, 249, 248, 247, 246, 192, 221, 274, 207, 273, 216, 276, 209, 261]
noncomputable def Ye_1 : List (Nat) := [260, 259, 258, 213, 262, 277, 200, 271, 265, 266, 214, 264, 263, 267, 219, 211, 269, 268, 270, 201, 279, 278, 212, 217, 218, 282, 198, 272, 286, 298, 305, 304, 301, 302, 308, 312, 310, 317, 319, 321, 324, 328, 327, 332, 331, 336, 335, 338, 339, 352, 121, 106, 107, 122, 125, 142, 68, 52, 145, 152, 64, 63, 55, 19, 153, 97, 62, 158, 65, 159, 161, 162, 163, 164, 170, 171, 37, 46, 33, 172, 173, 35, 174, 58, 123, 80, 108, 109, 119, 115, 113, 111, 112, 357, 359, 358, 360, 118, 114, 116]
noncomputable def Ye_2 : List (Nat) := [48, 49, 124, 22, 117, 126, 54, 53, 127, 57, 69, 56, 31, 77, 61, 60, 128, 129, 130, 131, 36, 132, 133, 134, 135, 136, 137, 138, 139, 140, 141, 143, 1, 144, 146, 39, 67, 147, 148, 59, 149, 11, 13, 150, 15, 151, 94, 154, 6, 155, 101, 66, 156, 157, 160, 165, 166, 167, 168, 32, 169, 191, 196, 197, 199, 222, 223, 233, 256, 257, 275, 280, 281, 283, 284, 285, 287, 288, 289, 290, 291, 292, 293, 294, 296, 299, 300, 306, 307, 309, 313, 315, 316, 320, 322, 325, 326, 329, 333, 337]
noncomputable def Ye_3 : List (Nat) := [340, 341, 342, 343, 344, 345, 346, 347, 348, 349, 350, 351, 353, 354, 355, 356]
noncomputable def Ye : List (Nat) := Ye_0 ++ (Ye_1 ++ (Ye_2 ++ (Ye_3)))
noncomputable def INl_0 : List (String) := ["LastCatchLaw", "LastCatch", "LastCatch$Sea", "LastCatch$Log", "LastCatch$Law", "java/util/Arrays", "LastCatch$Past", "LastCatch$Tape", "LastCatch$SeaText", "LastCatch$LawText", "LastCatch$Course", "LastCatch$Putting", "LastCatch$Stall", "LastCatch$Guess", "LastCatchModel", "java/lang/System", "java/lang/Math", "java/lang/Throwable", "java/lang/Exception", "java/lang/RuntimeException", "java/lang/IllegalArgumentException", "java/lang/String", "java/lang/StringLatin1", "jdk/internal/util/Preconditions", "java/lang/StringUTF16", "java/lang/UnsupportedOperationException", "java/lang/IndexOutOfBoundsException", "java/util/NoSuchElementException", "java/lang/Integer", "java/lang/IllegalStateException"]
noncomputable def INl : List (String) := INl_0

/-- the words of a method that calls want -/
def wds (y : MethodName) (cc : ByteArray) (maxL : Nat) (ret : Option FieldType) (hh : List (Nat × Nat × Nat × Nat)) : Jvm.Cond := match hh with
  | [] => .code y cc maxL ret
  | _ => .codeWith y cc maxL ret hh
/-- the first list's words stand in the second, in this order -/
def subl : List Jvm.Cond → List Jvm.Cond → Bool
  | [], _ => true
  | _ :: _, [] => false
  | x :: xs, t :: ts => match decide (x = t) with
    | true => subl xs ts
    | false => subl (x :: xs) ts
theorem subl_mem : ∀ (ts xs : List Jvm.Cond), subl xs ts = true → ∀ x ∈ xs, x ∈ ts
  | _, [], _, x, hx => absurd hx List.not_mem_nil
  | [], _ :: _, h, _, _ => by simp [subl] at h
  | t :: ts, x :: xs, h, y, hy => by
    unfold subl at h
    by_cases e : x = t
    · simp only [e, decide_true] at h
      rcases List.mem_cons.mp hy with rfl | hy
      · rw [e]; exact List.mem_cons_self
      · exact List.mem_cons_of_mem _ (subl_mem ts xs h y hy)
    · simp only [e, decide_false] at h
      exact List.mem_cons_of_mem _ (subl_mem ts (x :: xs) h y hy)
noncomputable def pgM (y : Nat) : mM := (Pg[y]?).getD ([], [], 0, 0, 0, 0)
noncomputable def wdc (y : Nat) : Jvm.Cond := wds (mN y) (mB y) (pgM y).2.2.1 (mR y) (mH y)
noncomputable def okP (y : Nat) : Bool := INl.contains (mN y).cls &&
      (if (pgM y).2.2.2.2.2 = 99 then Ys.contains y else Yi.contains y && decide ((mN y).cls = CNn (pgM y).2.2.2.2.2) && (decide ((mN y).name = "<init>") || Ye.contains y)) &&
      decide ((parseMethodDescriptor (mN y).desc).map (fun d => d.parameters.length) = some (pgM y).2.2.2.2.1) && plainFor (mN y) && decide ((mN y).cls ≠ "java/lang/invoke/MethodHandle") && decide ((mN y).cls ≠ "java/lang/invoke/VarHandle") &&
      (match (pgM y).2.2.2.1 with | 0 => decide (mR y = none) | 1 => decide (mR y = some .int) | 2 => decide (mR y = some .boolean) | 4 => decide (mR y = some .char) | 5 => decide (mR y = some .byte) | 3 => (match mR y with | some (.object _) => true | some (.array _) => true | _ => false) | _ => false)
def tgE (pcs : List Nat) (pc : Nat) (o : Int) : Int := ((pcs[o.toNat]?.getD 0 : Nat) : Int) - (pc : Int)
noncomputable def okE (cc : ByteArray) (own : String) (ini : Bool) (pcs : List Nat) (e : mE) (r : Nat × Instr × Nat × Nat) : Bool :=
  decide (decode cc r.1 = .ok (r.2.1, r.2.2.1)) && (match e.1 with
  | .iconst _ => decide (pcs[e.2.2.1]?.getD 0 = r.1 + r.2.2.1) && ((decide (r.2.1 = .iconst e.2.1.toInt) && decide (r.2.2.1 = 1)) || (decide (r.2.1 = .bipush e.2.1.toInt) && decide (r.2.2.1 = 2) && decide ((Int8.ofInt e.2.1.toInt).toInt32 = e.2.1)) || (decide (r.2.1 = .sipush e.2.1.toInt) && decide (r.2.2.1 = 3) && decide ((Int16.ofInt e.2.1.toInt).toInt32 = e.2.1)) ||
      (match CTl[r.2.2.2]? with | some q => decide (q.1 = own) && decide (q.2.2 = e.2.1) && ((decide (r.2.1 = .ldc q.2.1) && decide (r.2.2.1 = 2)) || (decide (r.2.1 = .ldc_w q.2.1) && decide (r.2.2.1 = 3))) | none => false))
  | .ldc k => decide (pcs[e.2.2.1]?.getD 0 = r.1 + r.2.2.1) && (match SRl[k]? with | some q => decide (q.1 = own) && ((decide (r.2.1 = .ldc q.2.1) && decide (r.2.2.1 = 2)) || (decide (r.2.1 = .ldc_w q.2.1) && decide (r.2.2.1 = 3))) | none => false)
  | .getstatic _ => decide (pcs[e.2.2.1]?.getD 0 = r.1 + 3) && decide (r.2.2.1 = 3) && decide (own = "java/lang/String") && (match e.2.2.2 with | 0 => decide (r.2.1 = .getstatic 38) | _ => decide (r.2.1 = .getstatic 1053))
  | .aload k => decide (pcs[e.2.2.1]?.getD 0 = r.1 + r.2.2.1) && ((decide (r.2.1 = .aload k) && decide (r.2.2.1 = 2)) || (decide (k < 4) && decide (r.2.1 = .aload_n (Fin.ofNat 4 k)) && decide (r.2.2.1 = 1)))
  | .iload k => decide (pcs[e.2.2.1]?.getD 0 = r.1 + r.2.2.1) && ((decide (r.2.1 = .iload k) && decide (r.2.2.1 = 2)) || (decide (k < 4) && decide (r.2.1 = .iload_n (Fin.ofNat 4 k)) && decide (r.2.2.1 = 1)))
  | .istore k => decide (pcs[e.2.2.1]?.getD 0 = r.1 + r.2.2.1) && ((decide (r.2.1 = .istore k) && decide (r.2.2.1 = 2)) || (decide (k < 4) && decide (r.2.1 = .istore_n (Fin.ofNat 4 k)) && decide (r.2.2.1 = 1)))
  | .astore k => decide (pcs[e.2.2.1]?.getD 0 = r.1 + r.2.2.1) && ((decide (r.2.1 = .astore k) && decide (r.2.2.1 = 2)) || (decide (k < 4) && decide (r.2.1 = .astore_n (Fin.ofNat 4 k)) && decide (r.2.2.1 = 1)))
  | .iinc k _ => decide (pcs[e.2.2.1]?.getD 0 = r.1 + 3) && decide (r.2.2.1 = 3) && decide (r.2.1 = .iinc k e.2.1.toInt)
  | .goto _ => decide (r.2.2.1 = 3) && decide (r.2.1 = .goto (tgE pcs r.1 e.2.2.2))
  | .ifCond c _ => decide (pcs[e.2.2.1]?.getD 0 = r.1 + 3) && decide (r.2.2.1 = 3) && decide (r.2.1 = .ifCond c (tgE pcs r.1 e.2.2.2))
  | .if_icmp c _ => decide (pcs[e.2.2.1]?.getD 0 = r.1 + 3) && decide (r.2.2.1 = 3) && decide (r.2.1 = .if_icmp c (tgE pcs r.1 e.2.2.2))
  | .ifnull _ => decide (pcs[e.2.2.1]?.getD 0 = r.1 + 3) && decide (r.2.2.1 = 3) && decide (r.2.1 = .ifnull (tgE pcs r.1 e.2.2.2))
  | .ifnonnull _ => decide (pcs[e.2.2.1]?.getD 0 = r.1 + 3) && decide (r.2.2.1 = 3) && decide (r.2.1 = .ifnonnull (tgE pcs r.1 e.2.2.2))
  | .tableswitch d lo hi offs => decide (r.2.1 = .tableswitch (tgE pcs r.1 d) lo hi (offs.map (tgE pcs r.1)))
  | .lookupswitch d ps => decide (r.2.1 = .lookupswitch (tgE pcs r.1 d) (ps.map fun q => (q.1, tgE pcs r.1 q.2))) && (ps.toList.zip (ps.toList.drop 1)).all (fun (a, next) => a.1 < next.1)
  | .getfield k => decide (pcs[e.2.2.1]?.getD 0 = r.1 + 3) && decide (r.2.2.1 = 3) && (match FLl[r.2.2.2]? with | some q => decide (q.1 = own) && decide (r.2.1 = .getfield q.2.1) && decide (q.2.2 = (e.2.2.2, k)) | none => false)
  | .putfield k => decide (pcs[e.2.2.1]?.getD 0 = r.1 + 3) && decide (r.2.2.1 = 3) && (match FLl[r.2.2.2]? with | some q => decide (q.1 = own) && decide (r.2.1 = .putfield q.2.1) && decide (q.2.2 = (e.2.2.2, k)) | none => false) && (decide ((TF e.2.2.2 k).2.2.2 = false) || ini && decide (own = CNn e.2.2.2))
  | .newarray ty => decide (pcs[e.2.2.1]?.getD 0 = r.1 + 2) && decide (r.2.2.1 = 2) && decide (r.2.1 = .newarray ty)
  | .multianewarray _ _ => decide (pcs[e.2.2.1]?.getD 0 = r.1 + 4) && decide (r.2.2.1 = 4) && (match CLl[r.2.2.2]? with | some q => decide (q.1 = own) && decide (r.2.1 = .multianewarray q.2.1 2) && decide (q.2.2 = "[[I") | none => false)
  | .anewarray _ => decide (pcs[e.2.2.1]?.getD 0 = r.1 + 3) && decide (r.2.2.1 = 3) && (match CLl[r.2.2.2]? with | some q => decide (q.1 = own) && decide (r.2.1 = .anewarray q.2.1) && decide (q.2.2 = CNn 7) | none => false)
  | .checkcast _ => decide (pcs[e.2.2.1]?.getD 0 = r.1 + 3) && decide (r.2.2.1 = 3) && (match CLl[r.2.2.2]? with | some q => decide (q.1 = own) && decide (r.2.1 = .checkcast q.2.1) && decide (q.2.2 = "[I") | none => false)
  | .new c => decide (r.2.2.1 = 3) && (if c < 13 then decide (pcs[e.2.2.1]?.getD 0 = r.1 + 3) && (match CLl[r.2.2.2]? with | some q => decide (q.1 = own) && decide (r.2.1 = .new q.2.1) && decide (q.2.2 = CNn c) | none => false) else
      (match EXc[r.2.2.2]? with | some q => decide (q.1 = own) && decide (r.2.1 = .new q.2.1) && decide (c = 20 + q.2.2.2.2.2.1) && decide (pcs[e.2.2.1]?.getD 0 = r.1 + 7 + q.2.2.2.2.2.2) && (match SRl[q.2.2.2.2.1]? with | some t => decide (t.1 = own) && decide (t.2.1 = q.2.2.1) | none => false) && decide (decode cc (r.1 + 3) = .ok (.dup, 1)) && ((decide (q.2.2.2.2.2.2 = 2) && decide (decode cc (r.1 + 4) = .ok (.ldc q.2.2.1, 2)) && decide (decode cc (r.1 + 6) = .ok (.invokespecial q.2.2.2.1, 3))) || (decide (q.2.2.2.2.2.2 = 3) && decide (decode cc (r.1 + 4) = .ok (.ldc_w q.2.2.1, 3)) && decide (decode cc (r.1 + 7) = .ok (.invokespecial q.2.2.2.1, 3)))) | none => false))
  | .athrow => decide (r.2.2.1 = 1) && decide (r.2.1 = .athrow)
  | .invokedynamic _ => decide (pcs[e.2.2.1]?.getD 0 = r.1 + 3) && decide (r.2.2.1 = 3) && (match MLl[r.2.2.2]? with | some q => decide (q.1 = own) && decide (r.2.1 = .invokestatic q.2.1) && decide (q.2.2 = arraycopyName) | none => false)
  | .invokeinterface _ _ => decide (pcs[e.2.2.1]?.getD 0 = r.1 + 3) && decide (r.2.2.1 = 3) && (match MLl[r.2.2.2]? with | some q => decide (q.1 = own) && decide (r.2.1 = .invokevirtual q.2.1) && decide (q.2.2 = ⟨"[I", "clone", "()Ljava/lang/Object;"⟩) | none => false)
  | .invokestatic y => decide (pcs[e.2.2.1]?.getD 0 = r.1 + 3) && decide (r.2.2.1 = 3) && (match MLl[r.2.2.2]? with | some q => decide (q.1 = own) && decide (r.2.1 = .invokestatic q.2.1) && decide (q.2.2 = mN y) | none => false)
  | .invokevirtual y => decide (pcs[e.2.2.1]?.getD 0 = r.1 + 3) && decide (r.2.2.1 = 3) && (match MLl[r.2.2.2]? with | some q => decide (q.1 = own) && decide (r.2.1 = .invokevirtual q.2.1) && decide (q.2.2 = mN y) && decide ((mN y).name ≠ "<init>") | none => false)
  | .invokespecial y => decide (pcs[e.2.2.1]?.getD 0 = r.1 + 3) && decide (r.2.2.1 = 3) && (match MLl[r.2.2.2]? with | some q => decide (q.1 = own) && decide (r.2.1 = .invokespecial q.2.1) && (if y = 9999 then decide (q.2.2 = Lib.objectInit) else decide (q.2.2 = mN y) && decide ((mN y).name = "<init>")) | none => false)
  | .ireturn => decide (r.2.1 = .ireturn) && decide (r.2.2.1 = 1)
  | .areturn => decide (r.2.1 = .areturn) && decide (r.2.2.1 = 1)
  | .return_ => decide (r.2.1 = .return_) && decide (r.2.2.1 = 1)
  | .nop => true
  | i => decide (pcs[e.2.2.1]?.getD 0 = r.1 + 1) && decide (r.2.1 = i) && decide (r.2.2.1 = 1))
def okL : Bool → List mE → List (Nat × Instr × Nat × Nat) → (mE → (Nat × Instr × Nat × Nat) → Bool) → Bool
  | b, [], [], _ => b
  | b, e :: es, r :: rs, f => f e r && okL b es rs f
  | _, _, _, _ => false
/-- the handlers, told by places and by bytes -/
noncomputable def okH (own : String) (pcs : List Nat) (hs : List (Nat × Nat × Nat × Nat)) (hh : List (Nat × Nat × Nat × Nat)) : Bool := match hs, hh with
  | [], [] => true
  | x :: hs, z :: hh => (List.range pcs.length).all (fun j => decide ((x.1 ≤ j ∧ j < x.2.1) ↔ (z.1 ≤ pcs[j]?.getD 0 ∧ pcs[j]?.getD 0 < z.2.1))) && decide (pcs[x.2.2.1]?.getD 0 = z.2.2.1) && decide (20 ≤ x.2.2.2 ∧ x.2.2.2 < 25) && decide (z.2.2.2 ≠ 0) && (CLl.any fun q => decide (q = (own, z.2.2.2, EXn (x.2.2.2 - 20)))) && okH own pcs hs hh
  | _, _ => false
noncomputable def okM (y : Nat) : Bool := match Pg[y]? with
  | some M => okL true M.1 (mW y) (okE (mB y) (mN y).cls (decide ((mN y).name = "<init>")) ((mW y).map fun r => r.1)) && okH (mN y).cls ((mW y).map fun r => r.1) M.2.1 (mH y) && decide (((mW y).map fun r => r.1)[0]?.getD 1 = 0)
  | none => false

set_option maxRecDepth 100000 in
theorem FL_ok : subl (FLl.map flW) lw_tbl = true := by decide +kernel
set_option maxRecDepth 100000 in
theorem ML_ok : subl (MLl.map mlW) lw_tbl = true := by decide +kernel
set_option maxRecDepth 100000 in
theorem CL_ok : subl (CLl.map clW) lw_tbl = true := by decide +kernel
set_option maxRecDepth 100000 in
theorem CT_ok : subl (CTl.map ctW) lw_tbl = true := by decide +kernel
set_option maxRecDepth 100000 in
theorem SR_ok : subl (SRl.map srW) lw_tbl = true := by decide +kernel
set_option maxRecDepth 100000 in
theorem Ys_ok : subl (Ys.map (fun y => .static (mN y))) lw_tbl = true := by decide +kernel
set_option maxRecDepth 100000 in
theorem Yi_ok : subl (Yi.map (fun y => .instanceMethod (mN y))) lw_tbl = true := by decide +kernel
set_option maxRecDepth 100000 in
theorem Ye_ok : subl (Ye.map (fun y => .selects (mN y).cls (mN y) (mN y))) lw_tbl = true := by decide +kernel
set_option maxRecDepth 100000 in
theorem INl_ok : subl (INl.map (fun c => .initialized c)) lw_tbl = true := by decide +kernel
theorem okP_0 : (List.range' 0 40).all okP = true := by decide +kernel
theorem okP_1 : (List.range' 40 40).all okP = true := by decide +kernel
theorem okP_2 : (List.range' 80 40).all okP = true := by decide +kernel
theorem okP_3 : (List.range' 120 40).all okP = true := by decide +kernel
theorem okP_4 : (List.range' 160 40).all okP = true := by decide +kernel
theorem okP_5 : (List.range' 200 40).all okP = true := by decide +kernel
theorem okP_6 : (List.range' 240 40).all okP = true := by decide +kernel
theorem okP_7 : (List.range' 280 40).all okP = true := by decide +kernel
theorem okP_8 : (List.range' 320 40).all okP = true := by decide +kernel
theorem okP_9 : (List.range' 360 40).all okP = true := by decide +kernel
theorem okP_10 : (List.range' 400 7).all okP = true := by decide +kernel
