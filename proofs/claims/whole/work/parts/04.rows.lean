section Rows
variable {κ : Kx} {nL lev : Nat} {cc : ByteArray} {own mnm : String} {ω : Om} {pc : Nat} {lo : List (Option Value)} {st : List Value} {σ : Hp}
theorem x_iconst (C : Cx κ nL lev cc own mnm) {n : Int} {v : Int32} (hd : decode cc pc = .ok (.iconst n, 1)) (hv : Int32.ofInt n = v) (k : X κ nL ω (pc + 1) lo (.int v :: st) σ) : X κ nL ω (pc) lo (st) σ := by
  intro H locs ls hl hP hD hS
  exact lv_iconst C.1 C.2.1 hd hv (k H locs ls hl hP hD hS)
theorem x_bipush (C : Cx κ nL lev cc own mnm) {n : Int} {v : Int32} (hd : decode cc pc = .ok (.bipush n, 2)) (hv : (Int8.ofInt n).toInt32 = v) (k : X κ nL ω (pc + 2) lo (.int v :: st) σ) : X κ nL ω (pc) lo (st) σ := by
  intro H locs ls hl hP hD hS
  exact lv_bipush C.1 C.2.1 hd hv (k H locs ls hl hP hD hS)
theorem x_sipush (C : Cx κ nL lev cc own mnm) {n : Int} {v : Int32} (hd : decode cc pc = .ok (.sipush n, 3)) (hv : (Int16.ofInt n).toInt32 = v) (k : X κ nL ω (pc + 3) lo (.int v :: st) σ) : X κ nL ω (pc) lo (st) σ := by
  intro H locs ls hl hP hD hS
  exact lv_sipush C.1 C.2.1 hd hv (k H locs ls hl hP hD hS)
theorem x_lconst (C : Cx κ nL lev cc own mnm) {n : Fin 2} {v : Int64} (hd : decode cc pc = .ok (.lconst n, 1)) (hv : Int64.ofNat (n : Nat) = v) (k : X κ nL ω (pc + 1) lo (.long v :: st) σ) : X κ nL ω (pc) lo (st) σ := by
  intro H locs ls hl hP hD hS
  exact lv_lconst C.1 C.2.1 hd hv (k H locs ls hl hP hD hS)
theorem x_ldc (C : Cx κ nL lev cc own mnm) {i : Nat} {v : Int32} (hw : Cond.constant own i v ∈ TB) (hd : decode cc pc = .ok (.ldc i, 2)) (k : X κ nL ω (pc + 2) lo (.int v :: st) σ) : X κ nL ω (pc) lo (st) σ := by
  intro H locs ls hl hP hD hS
  exact lv_ldc C.1 C.2.1 C.2.2.2.1 (C.2.2.2.2.1 _ hw _) hd (k H locs ls hl hP hD hS)
theorem x_ldcw (C : Cx κ nL lev cc own mnm) {i : Nat} {v : Int32} (hw : Cond.constant own i v ∈ TB) (hd : decode cc pc = .ok (.ldc_w i, 3)) (k : X κ nL ω (pc + 3) lo (.int v :: st) σ) : X κ nL ω (pc) lo (st) σ := by
  intro H locs ls hl hP hD hS
  exact lv_ldcw C.1 C.2.1 C.2.2.2.1 (C.2.2.2.2.1 _ hw _) hd (k H locs ls hl hP hD hS)
theorem x_ldc2 (C : Cx κ nL lev cc own mnm) {i : Nat} {v : Int64} (hw : Cond.constantLong own i v ∈ TB) (hd : decode cc pc = .ok (.ldc2_w i, 3)) (k : X κ nL ω (pc + 3) lo (.long v :: st) σ) : X κ nL ω (pc) lo (st) σ := by
  intro H locs ls hl hP hD hS
  exact lv_ldc2 C.1 C.2.1 C.2.2.2.1 (C.2.2.2.2.1 _ hw _) hd (k H locs ls hl hP hD hS)
theorem x_null (C : Cx κ nL lev cc own mnm)  (hd : decode cc pc = .ok (.aconst_null, 1)) (k : X κ nL ω (pc + 1) lo (.null :: st) σ) : X κ nL ω (pc) lo (st) σ := by
  intro H locs ls hl hP hD hS
  exact lv_null C.1 C.2.1 hd (k H locs ls hl hP hD hS)
theorem x_iload_n (C : Cx κ nL lev cc own mnm) {k0 : Fin 4} {i : Nat} {x : Int32} (hd : decode cc pc = .ok (.iload_n k0, 1)) (hi : (k0 : Nat) = i) (hv : lo[i]? = some (some (.int x))) (k : X κ nL ω (pc + 1) lo (.int x :: st) σ) : X κ nL ω (pc) lo (st) σ := by
  intro H locs ls hl hP hD hS
  exact lv_iload_n C.1 C.2.1 hd hi (hl.2.2 i _ hv) (k H locs ls hl hP hD hS)
theorem x_iload (C : Cx κ nL lev cc own mnm) {i : Nat} {x : Int32} (hd : decode cc pc = .ok (.iload i, 2)) (hv : lo[i]? = some (some (.int x))) (k : X κ nL ω (pc + 2) lo (.int x :: st) σ) : X κ nL ω (pc) lo (st) σ := by
  intro H locs ls hl hP hD hS
  exact lv_iload C.1 C.2.1 hd (hl.2.2 i _ hv) (k H locs ls hl hP hD hS)
theorem x_lload_n (C : Cx κ nL lev cc own mnm) {k0 : Fin 4} {i : Nat} {x : Int64} (hd : decode cc pc = .ok (.lload_n k0, 1)) (hi : (k0 : Nat) = i) (hv : lo[i]? = some (some (.long x))) (k : X κ nL ω (pc + 1) lo (.long x :: st) σ) : X κ nL ω (pc) lo (st) σ := by
  intro H locs ls hl hP hD hS
  exact lv_lload_n C.1 C.2.1 hd hi (hl.2.2 i _ hv) (k H locs ls hl hP hD hS)
theorem x_lload (C : Cx κ nL lev cc own mnm) {i : Nat} {x : Int64} (hd : decode cc pc = .ok (.lload i, 2)) (hv : lo[i]? = some (some (.long x))) (k : X κ nL ω (pc + 2) lo (.long x :: st) σ) : X κ nL ω (pc) lo (st) σ := by
  intro H locs ls hl hP hD hS
  exact lv_lload C.1 C.2.1 hd (hl.2.2 i _ hv) (k H locs ls hl hP hD hS)
theorem x_aload_n (C : Cx κ nL lev cc own mnm) {k0 : Fin 4} {i : Nat} {x : Nat} (hd : decode cc pc = .ok (.aload_n k0, 1)) (hi : (k0 : Nat) = i) (hv : lo[i]? = some (some (.ref x))) (k : X κ nL ω (pc + 1) lo (.ref x :: st) σ) : X κ nL ω (pc) lo (st) σ := by
  intro H locs ls hl hP hD hS
  exact lv_aload_n C.1 C.2.1 hd hi (hl.2.2 i _ hv) (k H locs ls hl hP hD hS)
theorem x_aload (C : Cx κ nL lev cc own mnm) {i : Nat} {x : Nat} (hd : decode cc pc = .ok (.aload i, 2)) (hv : lo[i]? = some (some (.ref x))) (k : X κ nL ω (pc + 2) lo (.ref x :: st) σ) : X κ nL ω (pc) lo (st) σ := by
  intro H locs ls hl hP hD hS
  exact lv_aload C.1 C.2.1 hd (hl.2.2 i _ hv) (k H locs ls hl hP hD hS)
theorem x_aload_nN (C : Cx κ nL lev cc own mnm) {k0 : Fin 4} {i : Nat} (hd : decode cc pc = .ok (.aload_n k0, 1)) (hi : (k0 : Nat) = i) (hv : lo[i]? = some (some .null)) (k : X κ nL ω (pc + 1) lo (.null :: st) σ) : X κ nL ω (pc) lo (st) σ := by
  intro H locs ls hl hP hD hS
  exact lv_aload_nN C.1 C.2.1 hd hi (hl.2.2 i _ hv) (k H locs ls hl hP hD hS)
theorem x_aload_nQ (C : Cx κ nL lev cc own mnm) {k0 : Fin 4} {i : Nat} {q : Option Nat} (hd : decode cc pc = .ok (.aload_n k0, 1)) (hi : (k0 : Nat) = i) (hv : lo[i]? = some (some (va_rf q))) (k : X κ nL ω (pc + 1) lo (va_rf q :: st) σ) : X κ nL ω (pc) lo (st) σ := by
  cases q with
  | none => exact x_aload_nN C hd hi hv k
  | some r => exact x_aload_n C hd hi hv k
theorem x_aloadQ (C : Cx κ nL lev cc own mnm) {i : Nat} {q : Option Nat} (hd : decode cc pc = .ok (.aload i, 2)) (hv : lo[i]? = some (some (va_rf q))) (k : X κ nL ω (pc + 2) lo (va_rf q :: st) σ) : X κ nL ω (pc) lo (st) σ := by
  cases q with
  | none =>
    intro H locs ls hl hP hD hS
    exact lv_aloadN C.1 C.2.1 hd (hl.2.2 i _ hv) (k H locs ls hl hP hD hS)
  | some r => exact x_aload C hd hv k
theorem x_istore_n (C : Cx κ nL lev cc own mnm) {k0 : Fin 4} {i : Nat} {x : Int32} (hd : decode cc pc = .ok (.istore_n k0, 1)) (hi : (k0 : Nat) = i) (hn : i < nL) (hok : stOK lo i = true) {lo' : List (Option Value)} (hlo : lo.set i (some (.int x)) = lo') (k : X κ nL ω (pc + 1) lo' (st) σ) : X κ nL ω (pc) lo (.int x :: st) σ := by
  intro H locs ls hl hP hD hS
  subst hlo; exact lv_istore_n C.1 C.2.1 hd hi hl.has hn rfl (fun ls' h' => k H locs ls' (lh_st1 (v := .int x) hok h') hP hD hS)
theorem x_istore (C : Cx κ nL lev cc own mnm) {i : Nat} {x : Int32} (hd : decode cc pc = .ok (.istore i, 2)) (hn : i < nL) (hok : stOK lo i = true) {lo' : List (Option Value)} (hlo : lo.set i (some (.int x)) = lo') (k : X κ nL ω (pc + 2) lo' (st) σ) : X κ nL ω (pc) lo (.int x :: st) σ := by
  intro H locs ls hl hP hD hS
  subst hlo; exact lv_istore C.1 C.2.1 hd hl.has hn rfl (fun ls' h' => k H locs ls' (lh_st1 (v := .int x) hok h') hP hD hS)
theorem x_astore_n (C : Cx κ nL lev cc own mnm) {k0 : Fin 4} {i : Nat} {x : Nat} (hd : decode cc pc = .ok (.astore_n k0, 1)) (hi : (k0 : Nat) = i) (hn : i < nL) (hok : stOK lo i = true) {lo' : List (Option Value)} (hlo : lo.set i (some (.ref x)) = lo') (k : X κ nL ω (pc + 1) lo' (st) σ) : X κ nL ω (pc) lo (.ref x :: st) σ := by
  intro H locs ls hl hP hD hS
  subst hlo; exact lv_astore_n C.1 C.2.1 hd hi hl.has hn rfl (fun ls' h' => k H locs ls' (lh_st1 (v := .ref x) hok h') hP hD hS)
theorem x_astore (C : Cx κ nL lev cc own mnm) {i : Nat} {x : Nat} (hd : decode cc pc = .ok (.astore i, 2)) (hn : i < nL) (hok : stOK lo i = true) {lo' : List (Option Value)} (hlo : lo.set i (some (.ref x)) = lo') (k : X κ nL ω (pc + 2) lo' (st) σ) : X κ nL ω (pc) lo (.ref x :: st) σ := by
  intro H locs ls hl hP hD hS
  subst hlo; exact lv_astore C.1 C.2.1 hd hl.has hn rfl (fun ls' h' => k H locs ls' (lh_st1 (v := .ref x) hok h') hP hD hS)
theorem x_lstore_n (C : Cx κ nL lev cc own mnm) {k0 : Fin 4} {i : Nat} {x : Int64} (hd : decode cc pc = .ok (.lstore_n k0, 1)) (hi : (k0 : Nat) = i) (hn : i + 1 < nL) (hok : stOK lo i = true) {lo' : List (Option Value)} (hlo : (lo.set i (some (.long x))).set (i + 1) none = lo') (k : X κ nL ω (pc + 1) lo' (st) σ) : X κ nL ω (pc) lo (.long x :: st) σ := by
  intro H locs ls hl hP hD hS
  subst hlo; exact lv_lstore_n C.1 C.2.1 hd hi hl.has hn rfl (fun ls' h' => k H locs ls' (lh_st2 (v := .long x) hok h') hP hD hS)
theorem x_lstore (C : Cx κ nL lev cc own mnm) {i : Nat} {x : Int64} (hd : decode cc pc = .ok (.lstore i, 2)) (hn : i + 1 < nL) (hok : stOK lo i = true) {lo' : List (Option Value)} (hlo : (lo.set i (some (.long x))).set (i + 1) none = lo') (k : X κ nL ω (pc + 2) lo' (st) σ) : X κ nL ω (pc) lo (.long x :: st) σ := by
  intro H locs ls hl hP hD hS
  subst hlo; exact lv_lstore C.1 C.2.1 hd hl.has hn rfl (fun ls' h' => k H locs ls' (lh_st2 (v := .long x) hok h') hP hD hS)
theorem x_astore_nQ (C : Cx κ nL lev cc own mnm) {k0 : Fin 4} {i : Nat} {q : Option Nat} (hd : decode cc pc = .ok (.astore_n k0, 1)) (hi : (k0 : Nat) = i) (hn : i < nL) (hok : stOK lo i = true) {lo' : List (Option Value)} (hlo : lo.set i (some (va_rf q)) = lo') (k : X κ nL ω (pc + 1) lo' (st) σ) : X κ nL ω (pc) lo (va_rf q :: st) σ := by
  cases q with
  | none =>
    intro H locs ls hl hP hD hS
    subst hlo; exact lv_astore_nN C.1 C.2.1 hd hi hl.has hn rfl (fun ls' h' => k H locs ls' (lh_st1 (v := .null) hok h') hP hD hS)
  | some r => exact x_astore_n C hd hi hn hok hlo k
theorem x_astoreQ (C : Cx κ nL lev cc own mnm) {i : Nat} {q : Option Nat} (hd : decode cc pc = .ok (.astore i, 2)) (hn : i < nL) (hok : stOK lo i = true) {lo' : List (Option Value)} (hlo : lo.set i (some (va_rf q)) = lo') (k : X κ nL ω (pc + 2) lo' (st) σ) : X κ nL ω (pc) lo (va_rf q :: st) σ := by
  cases q with
  | none =>
    intro H locs ls hl hP hD hS
    subst hlo; exact lv_astoreN C.1 C.2.1 hd hl.has hn rfl (fun ls' h' => k H locs ls' (lh_st1 (v := .null) hok h') hP hD hS)
  | some r => exact x_astore C hd hn hok hlo k
theorem loA_at {ad : Nat → Nat} {lo : List (Option Value)} {i : Nat} {v : Value} (h : lo[i]? = some (some v)) : ∃ k : Nat, (loA ad lo)[k]? = some (i, cvV ad v) := List.getElem?_of_mem (loA_mem.mpr ⟨v, h, rfl⟩)
theorem x_iinc (C : Cx κ nL lev cc own mnm) {i : Nat} {n : Int} {x y : Int32} (hd : decode cc pc = .ok (.iinc i n, 3)) (hv : lo[i]? = some (some (.int x))) (hy : x + Int32.ofInt n = y) (hn : i < nL) (hok : stOK lo i = true) {lo' : List (Option Value)} (hlo : lo.set i (some (.int y)) = lo') (k : X κ nL ω (pc + 3) lo' (st) σ) : X κ nL ω (pc) lo (st) σ := by
  intro H locs ls hl hP hD hS
  obtain ⟨kk, hk⟩ := loA_at (ad := ω.2.1) hv
  subst hlo; exact lv_iinc C.1 C.2.1 hd hl.has hk hy hn rfl (fun ls' h' => k H locs ls' (lh_st1 (v := .int y) hok h') hP hD hS)
theorem x_iadd (C : Cx κ nL lev cc own mnm) {x y : Int32} (hd : decode cc pc = .ok (.iadd, 1)) (k : X κ nL ω (pc + 1) lo (.int (x + y) :: st) σ) : X κ nL ω (pc) lo (.int y :: .int x :: st) σ := by
  intro H locs ls hl hP hD hS
  exact lv_iadd C.1 C.2.1 hd (k H locs ls hl hP hD hS)
theorem x_isub (C : Cx κ nL lev cc own mnm) {x y : Int32} (hd : decode cc pc = .ok (.isub, 1)) (k : X κ nL ω (pc + 1) lo (.int (x - y) :: st) σ) : X κ nL ω (pc) lo (.int y :: .int x :: st) σ := by
  intro H locs ls hl hP hD hS
  exact lv_isub C.1 C.2.1 hd (k H locs ls hl hP hD hS)
theorem x_imul (C : Cx κ nL lev cc own mnm) {x y : Int32} (hd : decode cc pc = .ok (.imul, 1)) (k : X κ nL ω (pc + 1) lo (.int (x * y) :: st) σ) : X κ nL ω (pc) lo (.int y :: .int x :: st) σ := by
  intro H locs ls hl hP hD hS
  exact lv_imul C.1 C.2.1 hd (k H locs ls hl hP hD hS)
theorem x_iand (C : Cx κ nL lev cc own mnm) {x y : Int32} (hd : decode cc pc = .ok (.iand, 1)) (k : X κ nL ω (pc + 1) lo (.int (x &&& y) :: st) σ) : X κ nL ω (pc) lo (.int y :: .int x :: st) σ := by
  intro H locs ls hl hP hD hS
  exact lv_iand C.1 C.2.1 hd (k H locs ls hl hP hD hS)
theorem x_ior (C : Cx κ nL lev cc own mnm) {x y : Int32} (hd : decode cc pc = .ok (.ior, 1)) (k : X κ nL ω (pc + 1) lo (.int (x ||| y) :: st) σ) : X κ nL ω (pc) lo (.int y :: .int x :: st) σ := by
  intro H locs ls hl hP hD hS
  exact lv_ior C.1 C.2.1 hd (k H locs ls hl hP hD hS)
theorem x_ixor (C : Cx κ nL lev cc own mnm) {x y : Int32} (hd : decode cc pc = .ok (.ixor, 1)) (k : X κ nL ω (pc + 1) lo (.int (x ^^^ y) :: st) σ) : X κ nL ω (pc) lo (.int y :: .int x :: st) σ := by
  intro H locs ls hl hP hD hS
  exact lv_ixor C.1 C.2.1 hd (k H locs ls hl hP hD hS)
theorem x_ishl (C : Cx κ nL lev cc own mnm) {x y : Int32} (hd : decode cc pc = .ok (.ishl, 1)) (k : X κ nL ω (pc + 1) lo (.int (x <<< (y &&& 31)) :: st) σ) : X κ nL ω (pc) lo (.int y :: .int x :: st) σ := by
  intro H locs ls hl hP hD hS
  exact lv_ishl C.1 C.2.1 hd (k H locs ls hl hP hD hS)
theorem x_ishr (C : Cx κ nL lev cc own mnm) {x y : Int32} (hd : decode cc pc = .ok (.ishr, 1)) (k : X κ nL ω (pc + 1) lo (.int (x >>> (y &&& 31)) :: st) σ) : X κ nL ω (pc) lo (.int y :: .int x :: st) σ := by
  intro H locs ls hl hP hD hS
  exact lv_ishr C.1 C.2.1 hd (k H locs ls hl hP hD hS)
theorem x_ladd (C : Cx κ nL lev cc own mnm) {x y : Int64} (hd : decode cc pc = .ok (.ladd, 1)) (k : X κ nL ω (pc + 1) lo (.long (x + y) :: st) σ) : X κ nL ω (pc) lo (.long y :: .long x :: st) σ := by
  intro H locs ls hl hP hD hS
  exact lv_ladd C.1 C.2.1 hd (k H locs ls hl hP hD hS)
theorem x_lmul (C : Cx κ nL lev cc own mnm) {x y : Int64} (hd : decode cc pc = .ok (.lmul, 1)) (k : X κ nL ω (pc + 1) lo (.long (x * y) :: st) σ) : X κ nL ω (pc) lo (.long y :: .long x :: st) σ := by
  intro H locs ls hl hP hD hS
  exact lv_lmul C.1 C.2.1 hd (k H locs ls hl hP hD hS)
theorem x_lsub (C : Cx κ nL lev cc own mnm) {x y : Int64} (hd : decode cc pc = .ok (.lsub, 1)) (k : X κ nL ω (pc + 1) lo (.long (x - y) :: st) σ) : X κ nL ω (pc) lo (.long y :: .long x :: st) σ := by
  intro H locs ls hl hP hD hS
  exact lv_lsub C.1 C.2.1 hd (k H locs ls hl hP hD hS)
theorem x_idiv (C : Cx κ nL lev cc own mnm) {x y : Int32} (hd : decode cc pc = .ok (.idiv, 1)) (hne : ¬ y = 0) (k : X κ nL ω (pc + 1) lo (.int (x / y) :: st) σ) : X κ nL ω (pc) lo (.int y :: .int x :: st) σ := by
  intro H locs ls hl hP hD hS
  exact lv_idiv C.1 C.2.1 hd hne (k H locs ls hl hP hD hS)
theorem x_irem (C : Cx κ nL lev cc own mnm) {x y : Int32} (hd : decode cc pc = .ok (.irem, 1)) (hne : ¬ y = 0) (k : X κ nL ω (pc + 1) lo (.int (x - x / y * y) :: st) σ) : X κ nL ω (pc) lo (.int y :: .int x :: st) σ := by
  intro H locs ls hl hP hD hS
  exact lv_irem C.1 C.2.1 hd hne (k H locs ls hl hP hD hS)
theorem x_ldiv (C : Cx κ nL lev cc own mnm) {x y : Int64} (hd : decode cc pc = .ok (.ldiv, 1)) (hne : ¬ y = 0) (k : X κ nL ω (pc + 1) lo (.long (x / y) :: st) σ) : X κ nL ω (pc) lo (.long y :: .long x :: st) σ := by
  intro H locs ls hl hP hD hS
  exact lv_ldiv C.1 C.2.1 hd hne (k H locs ls hl hP hD hS)
theorem x_lrem (C : Cx κ nL lev cc own mnm) {x y : Int64} (hd : decode cc pc = .ok (.lrem, 1)) (hne : ¬ y = 0) (k : X κ nL ω (pc + 1) lo (.long (x - x / y * y) :: st) σ) : X κ nL ω (pc) lo (.long y :: .long x :: st) σ := by
  intro H locs ls hl hP hD hS
  exact lv_lrem C.1 C.2.1 hd hne (k H locs ls hl hP hD hS)
theorem x_ineg (C : Cx κ nL lev cc own mnm) {x : Int32} (hd : decode cc pc = .ok (.ineg, 1)) (k : X κ nL ω (pc + 1) lo (.int (-x) :: st) σ) : X κ nL ω (pc) lo (.int x :: st) σ := by
  intro H locs ls hl hP hD hS
  exact lv_ineg C.1 C.2.1 hd (k H locs ls hl hP hD hS)
theorem x_iushr (C : Cx κ nL lev cc own mnm) {x y : Int32} (hd : decode cc pc = .ok (.iushr, 1)) (k : X κ nL ω (pc + 1) lo (.int ((x.toUInt32 >>> (y.toUInt32 &&& Int32.toUInt32 31)).toInt32) :: st) σ) : X κ nL ω (pc) lo (.int y :: .int x :: st) σ := by
  intro H locs ls hl hP hD hS
  exact lv_iushr C.1 C.2.1 hd rfl (k H locs ls hl hP hD hS)
theorem x_i2l (C : Cx κ nL lev cc own mnm) {x : Int32} (hd : decode cc pc = .ok (.i2l, 1)) (k : X κ nL ω (pc + 1) lo (.long x.toInt64 :: st) σ) : X κ nL ω (pc) lo (.int x :: st) σ := by
  intro H locs ls hl hP hD hS
  exact lv_i2l C.1 C.2.1 hd rfl (k H locs ls hl hP hD hS)
theorem x_l2i (C : Cx κ nL lev cc own mnm) {x : Int64} (hd : decode cc pc = .ok (.l2i, 1)) (k : X κ nL ω (pc + 1) lo (.int x.toInt32 :: st) σ) : X κ nL ω (pc) lo (.long x :: st) σ := by
  intro H locs ls hl hP hD hS
  exact lv_l2i C.1 C.2.1 hd rfl (k H locs ls hl hP hD hS)
theorem x_i2b (C : Cx κ nL lev cc own mnm) {x : Int32} (hd : decode cc pc = .ok (.i2b, 1)) (k : X κ nL ω (pc + 1) lo (.int x.toInt8.toInt32 :: st) σ) : X κ nL ω (pc) lo (.int x :: st) σ := by
  intro H locs ls hl hP hD hS
  exact lv_i2b C.1 C.2.1 hd rfl (k H locs ls hl hP hD hS)
theorem x_i2s (C : Cx κ nL lev cc own mnm) {x : Int32} (hd : decode cc pc = .ok (.i2s, 1)) (k : X κ nL ω (pc + 1) lo (.int x.toInt16.toInt32 :: st) σ) : X κ nL ω (pc) lo (.int x :: st) σ := by
  intro H locs ls hl hP hD hS
  exact lv_i2s C.1 C.2.1 hd rfl (k H locs ls hl hP hD hS)
theorem x_lcmp (C : Cx κ nL lev cc own mnm) {x y : Int64} (hd : decode cc pc = .ok (.lcmp, 1)) (k : X κ nL ω (pc + 1) lo (.int (lg_cmp x y) :: st) σ) : X κ nL ω (pc) lo (.long y :: .long x :: st) σ := by
  intro H locs ls hl hP hD hS
  exact W.lcmp C.1 C.2.1 hd (k H locs ls hl hP hD hS)
theorem x_dup (C : Cx κ nL lev cc own mnm) {v : Value} (hd : decode cc pc = .ok (.dup, 1)) (hc : v.category = 1) (k : X κ nL ω (pc + 1) lo (v :: v :: st) σ) : X κ nL ω (pc) lo (v :: st) σ := by
  intro H locs ls hl hP hD hS
  exact lv_dup C.1 C.2.1 hd (by rw [cvV_cat]; exact hc) (k H locs ls hl hP hD hS)
theorem x_pop (C : Cx κ nL lev cc own mnm) {v : Value} (hd : decode cc pc = .ok (.pop, 1)) (hc : v.category = 1) (k : X κ nL ω (pc + 1) lo (st) σ) : X κ nL ω (pc) lo (v :: st) σ := by
  intro H locs ls hl hP hD hS
  exact lv_pop C.1 C.2.1 hd (by rw [cvV_cat]; exact hc) (k H locs ls hl hP hD hS)
theorem x_dup2 (C : Cx κ nL lev cc own mnm) {v w : Value} (hd : decode cc pc = .ok (.dup2, 1)) (hc : v.category = 1) (hc2 : w.category = 1) (k : X κ nL ω (pc + 1) lo (v :: w :: v :: w :: st) σ) : X κ nL ω (pc) lo (v :: w :: st) σ := by
  intro H locs ls hl hP hD hS
  exact lv_dup2_11 C.1 C.2.1 hd (by rw [cvV_cat]; exact hc) (by rw [cvV_cat]; exact hc2) (k H locs ls hl hP hD hS)
theorem x_topi {x : Int32} (k : ∀ y : Int32, y = x → X κ nL ω (pc) lo (.int y :: st) σ) : X κ nL ω (pc) lo (.int x :: st) σ := k x rfl
theorem x_topl {x : Int64} (k : ∀ y : Int64, y = x → X κ nL ω (pc) lo (.long y :: st) σ) : X κ nL ω (pc) lo (.long x :: st) σ := k x rfl
theorem x_if_eq (C : Cx κ nL lev cc own mnm) {x : Int32} {off : Int} {tgt : Nat} (hd : decode cc pc = .ok (.ifCond .eq off, 3)) (ht : (pc : Int) + off = (tgt : Int)) (kt : x = 0 → X κ nL ω (tgt) lo (st) σ) (kf : ¬ (x = 0) → X κ nL ω (pc + 3) lo (st) σ) : X κ nL ω (pc) lo (.int x :: st) σ := by
  intro H locs ls hl hP hD hS
  exact lv_if_eq C.1 C.2.1 hd ht (fun h => kt h H locs ls hl hP hD hS) (fun h => kf h H locs ls hl hP hD hS)
theorem x_if_ne (C : Cx κ nL lev cc own mnm) {x : Int32} {off : Int} {tgt : Nat} (hd : decode cc pc = .ok (.ifCond .ne off, 3)) (ht : (pc : Int) + off = (tgt : Int)) (kt : ¬ x = 0 → X κ nL ω (tgt) lo (st) σ) (kf : x = 0 → X κ nL ω (pc + 3) lo (st) σ) : X κ nL ω (pc) lo (.int x :: st) σ := by
  intro H locs ls hl hP hD hS
  exact lv_if_ne C.1 C.2.1 hd ht (fun h => kt h H locs ls hl hP hD hS) (fun h => kf h H locs ls hl hP hD hS)
theorem x_if_lt (C : Cx κ nL lev cc own mnm) {x : Int32} {off : Int} {tgt : Nat} (hd : decode cc pc = .ok (.ifCond .lt off, 3)) (ht : (pc : Int) + off = (tgt : Int)) (kt : x < 0 → X κ nL ω (tgt) lo (st) σ) (kf : ¬ (x < 0) → X κ nL ω (pc + 3) lo (st) σ) : X κ nL ω (pc) lo (.int x :: st) σ := by
  intro H locs ls hl hP hD hS
  exact lv_if_lt C.1 C.2.1 hd ht (fun h => kt h H locs ls hl hP hD hS) (fun h => kf h H locs ls hl hP hD hS)
theorem x_if_ge (C : Cx κ nL lev cc own mnm) {x : Int32} {off : Int} {tgt : Nat} (hd : decode cc pc = .ok (.ifCond .ge off, 3)) (ht : (pc : Int) + off = (tgt : Int)) (kt : 0 ≤ x → X κ nL ω (tgt) lo (st) σ) (kf : ¬ (0 ≤ x) → X κ nL ω (pc + 3) lo (st) σ) : X κ nL ω (pc) lo (.int x :: st) σ := by
  intro H locs ls hl hP hD hS
  exact lv_if_ge C.1 C.2.1 hd ht (fun h => kt h H locs ls hl hP hD hS) (fun h => kf h H locs ls hl hP hD hS)
theorem x_if_gt (C : Cx κ nL lev cc own mnm) {x : Int32} {off : Int} {tgt : Nat} (hd : decode cc pc = .ok (.ifCond .gt off, 3)) (ht : (pc : Int) + off = (tgt : Int)) (kt : 0 < x → X κ nL ω (tgt) lo (st) σ) (kf : ¬ (0 < x) → X κ nL ω (pc + 3) lo (st) σ) : X κ nL ω (pc) lo (.int x :: st) σ := by
  intro H locs ls hl hP hD hS
  exact lv_if_gt C.1 C.2.1 hd ht (fun h => kt h H locs ls hl hP hD hS) (fun h => kf h H locs ls hl hP hD hS)
theorem x_if_le (C : Cx κ nL lev cc own mnm) {x : Int32} {off : Int} {tgt : Nat} (hd : decode cc pc = .ok (.ifCond .le off, 3)) (ht : (pc : Int) + off = (tgt : Int)) (kt : x ≤ 0 → X κ nL ω (tgt) lo (st) σ) (kf : ¬ (x ≤ 0) → X κ nL ω (pc + 3) lo (st) σ) : X κ nL ω (pc) lo (.int x :: st) σ := by
  intro H locs ls hl hP hD hS
  exact lv_if_le C.1 C.2.1 hd ht (fun h => kt h H locs ls hl hP hD hS) (fun h => kf h H locs ls hl hP hD hS)
theorem x_icmp_eq (C : Cx κ nL lev cc own mnm) {x y : Int32} {off : Int} {tgt : Nat} (hd : decode cc pc = .ok (.if_icmp .eq off, 3)) (ht : (pc : Int) + off = (tgt : Int)) (kt : x = y → X κ nL ω (tgt) lo (st) σ) (kf : ¬ (x = y) → X κ nL ω (pc + 3) lo (st) σ) : X κ nL ω (pc) lo (.int y :: .int x :: st) σ := by
  intro H locs ls hl hP hD hS
  exact lv_icmp_eq C.1 C.2.1 hd ht (fun h => kt h H locs ls hl hP hD hS) (fun h => kf h H locs ls hl hP hD hS)
theorem x_icmp_ne (C : Cx κ nL lev cc own mnm) {x y : Int32} {off : Int} {tgt : Nat} (hd : decode cc pc = .ok (.if_icmp .ne off, 3)) (ht : (pc : Int) + off = (tgt : Int)) (kt : ¬ x = y → X κ nL ω (tgt) lo (st) σ) (kf : x = y → X κ nL ω (pc + 3) lo (st) σ) : X κ nL ω (pc) lo (.int y :: .int x :: st) σ := by
  intro H locs ls hl hP hD hS
  exact lv_icmp_ne C.1 C.2.1 hd ht (fun h => kt h H locs ls hl hP hD hS) (fun h => kf h H locs ls hl hP hD hS)
theorem x_icmp_lt (C : Cx κ nL lev cc own mnm) {x y : Int32} {off : Int} {tgt : Nat} (hd : decode cc pc = .ok (.if_icmp .lt off, 3)) (ht : (pc : Int) + off = (tgt : Int)) (kt : x < y → X κ nL ω (tgt) lo (st) σ) (kf : ¬ (x < y) → X κ nL ω (pc + 3) lo (st) σ) : X κ nL ω (pc) lo (.int y :: .int x :: st) σ := by
  intro H locs ls hl hP hD hS
  exact lv_icmp_lt C.1 C.2.1 hd ht (fun h => kt h H locs ls hl hP hD hS) (fun h => kf h H locs ls hl hP hD hS)
theorem x_icmp_ge (C : Cx κ nL lev cc own mnm) {x y : Int32} {off : Int} {tgt : Nat} (hd : decode cc pc = .ok (.if_icmp .ge off, 3)) (ht : (pc : Int) + off = (tgt : Int)) (kt : y ≤ x → X κ nL ω (tgt) lo (st) σ) (kf : ¬ (y ≤ x) → X κ nL ω (pc + 3) lo (st) σ) : X κ nL ω (pc) lo (.int y :: .int x :: st) σ := by
  intro H locs ls hl hP hD hS
  exact lv_icmp_ge C.1 C.2.1 hd ht (fun h => kt h H locs ls hl hP hD hS) (fun h => kf h H locs ls hl hP hD hS)
theorem x_icmp_gt (C : Cx κ nL lev cc own mnm) {x y : Int32} {off : Int} {tgt : Nat} (hd : decode cc pc = .ok (.if_icmp .gt off, 3)) (ht : (pc : Int) + off = (tgt : Int)) (kt : y < x → X κ nL ω (tgt) lo (st) σ) (kf : ¬ (y < x) → X κ nL ω (pc + 3) lo (st) σ) : X κ nL ω (pc) lo (.int y :: .int x :: st) σ := by
  intro H locs ls hl hP hD hS
  exact lv_icmp_gt C.1 C.2.1 hd ht (fun h => kt h H locs ls hl hP hD hS) (fun h => kf h H locs ls hl hP hD hS)
theorem x_icmp_le (C : Cx κ nL lev cc own mnm) {x y : Int32} {off : Int} {tgt : Nat} (hd : decode cc pc = .ok (.if_icmp .le off, 3)) (ht : (pc : Int) + off = (tgt : Int)) (kt : x ≤ y → X κ nL ω (tgt) lo (st) σ) (kf : ¬ (x ≤ y) → X κ nL ω (pc + 3) lo (st) σ) : X κ nL ω (pc) lo (.int y :: .int x :: st) σ := by
  intro H locs ls hl hP hD hS
  exact lv_icmp_le C.1 C.2.1 hd ht (fun h => kt h H locs ls hl hP hD hS) (fun h => kf h H locs ls hl hP hD hS)
theorem x_goto (C : Cx κ nL lev cc own mnm) {off : Int} {tgt : Nat} (hd : decode cc pc = .ok (.goto off, 3)) (ht : (pc : Int) + off = (tgt : Int)) (k : X κ nL ω (tgt) lo (st) σ) : X κ nL ω (pc) lo (st) σ := by
  intro H locs ls hl hP hD hS
  exact lv_goto C.1 C.2.1 hd ht (k H locs ls hl hP hD hS)
theorem x_ifnull (C : Cx κ nL lev cc own mnm) {q : Option Nat} {off : Int} {tgt : Nat} (hd : decode cc pc = .ok (.ifnull off, 3)) (ht : (pc : Int) + off = (tgt : Int)) (kt : q = none → X κ nL ω (tgt) lo (st) σ) (kf : ∀ r, q = some r → X κ nL ω (pc + 3) lo (st) σ) : X κ nL ω (pc) lo (va_rf q :: st) σ := by
  intro H locs ls hl hP hD hS
  cases q with
  | none => exact lv_ifnullN C.1 C.2.1 hd ht (kt rfl H locs ls hl hP hD hS)
  | some r => exact lv_ifnull C.1 C.2.1 hd (kf r rfl H locs ls hl hP hD hS)
theorem x_ifnonnull (C : Cx κ nL lev cc own mnm) {q : Option Nat} {off : Int} {tgt : Nat} (hd : decode cc pc = .ok (.ifnonnull off, 3)) (ht : (pc : Int) + off = (tgt : Int)) (kt : ∀ r, q = some r → X κ nL ω (tgt) lo (st) σ) (kf : q = none → X κ nL ω (pc + 3) lo (st) σ) : X κ nL ω (pc) lo (va_rf q :: st) σ := by
  intro H locs ls hl hP hD hS
  cases q with
  | none => exact lv_ifnonnullN C.1 C.2.1 hd (kf rfl H locs ls hl hP hD hS)
  | some r => exact lv_ifnonnull C.1 C.2.1 hd ht (kt r rfl H locs ls hl hP hD hS)
theorem x_lookup (C : Cx κ nL lev cc own mnm) {dflt : Int} {ps : Array (Int × Int)} {len : Nat} {x : Int32} {off : Int} {tgt : Nat} (hd : decode cc pc = .ok (.lookupswitch dflt ps, len)) (hp : (ps.toList.zip (ps.toList.drop 1)).all (fun (a, next) => a.1 < next.1) = true) (ho : Op.lookupswitch.offset ps.toList dflt x.toInt = off) (ht : (pc : Int) + off = (tgt : Int)) (k : X κ nL ω tgt lo st σ) : X κ nL ω pc lo (.int x :: st) σ := by
  intro H locs ls hl hP hD hS
  exact lv_lookup C.1 C.2.1 hd hp ho ht (k H locs ls hl hP hD hS)
theorem x_tableOut (C : Cx κ nL lev cc own mnm) {dflt lo1 hi : Int} {offs : Array Int} {len : Nat} {x : Int32} {tgt : Nat} (hd : decode cc pc = .ok (.tableswitch dflt lo1 hi offs, len)) (h : x.toInt < lo1 ∨ hi < x.toInt) (ht : (pc : Int) + dflt = (tgt : Int)) (k : X κ nL ω tgt lo st σ) : X κ nL ω pc lo (.int x :: st) σ := by
  intro H locs ls hl hP hD hS
  exact lv_tableOut C.1 C.2.1 hd h ht (k H locs ls hl hP hD hS)
theorem x_tableIn (C : Cx κ nL lev cc own mnm) {dflt lo1 hi : Int} {offs : Array Int} {len : Nat} {x : Int32} {off : Int} {tgt : Nat} (hd : decode cc pc = .ok (.tableswitch dflt lo1 hi offs, len)) (h1 : ¬ x.toInt < lo1) (h2 : ¬ hi < x.toInt) (ho : offs[(x.toInt - lo1).toNat]? = some off) (ht : (pc : Int) + off = (tgt : Int)) (k : X κ nL ω tgt lo st σ) : X κ nL ω pc lo (.int x :: st) σ := by
  intro H locs ls hl hP hD hS
  exact lv_tableIn C.1 C.2.1 hd h1 h2 ho ht (k H locs ls hl hP hD hS)
def mk : List Bool → List (Option Value) → List (Option Value)
  | true :: bs, v :: vs => v :: mk bs vs
  | false :: bs, _ :: vs => none :: mk bs vs
  | _, _ => []
theorem mk_at : ∀ (bs : List Bool) (lo : List (Option Value)) (i : Nat) (v : Value), (mk bs lo)[i]? = some (some v) → lo[i]? = some (some v) := by
  intro bs
  induction bs with
  | nil => intro lo i v h; cases lo <;> simp [mk] at h
  | cons b bs ih =>
    intro lo i v h
    cases lo with
    | nil => cases b <;> simp [mk] at h
    | cons w ws =>
      cases b with
      | true =>
        cases i with
        | zero => simpa [mk] using h
        | succ i => simp only [mk, List.getElem?_cons_succ] at h ⊢; exact ih ws i v h
      | false =>
        cases i with
        | zero => simp [mk] at h
        | succ i => simp only [mk, List.getElem?_cons_succ] at h ⊢; exact ih ws i v h
theorem x_wk (bs : List Bool) {lo' : List (Option Value)} (hb : mk bs lo = lo') (k : X κ nL ω pc lo' st σ) : X κ nL ω pc lo st σ := by
  intro H locs ls hl hP hD hS
  subst hb
  exact k H locs ls ⟨hl.1, hl.2.1, fun i v h => hl.2.2 i v (mk_at bs lo i v h)⟩ hP hD hS
end Rows
