/-! constant rows of the class -/
def sA (k : Nat) (x : Int32) : Option Int32 := if ¬ (x < 0 ∨ 6 ≤ x.toNatClampNeg) then some (stv k x.toNatClampNeg) else none
theorem sA_spec {k : Nat} {x y : Int32} (h : sA k x = some y) : vp_in x 6 ∧ y = stv k x.toNatClampNeg := by
  unfold sA at h
  split at h
  case isFalse => cases h
  case isTrue hc => cases h; exact ⟨hc, rfl⟩
section Stat
variable {κ : Kx} {nL lev : Nat} {cc : ByteArray} {own mnm : String} {ω : Om} {pc : Nat} {lo : List (Option Value)} {st : List Value} {σ : Hp}
theorem x_gets (C : Cx κ nL lev cc own mnm) (Z : Zx κ ω) {idx k : Nat} (hk : k < 3) (hw : Cond.fieldLink own idx "PegDiscs" (snm k) "[I" ∈ TB) (hd : decode cc pc = .ok (.getstatic idx, 3)) (kk : X κ nL ω (pc + 3) lo (.ref (1000000 + k) :: st) σ) : X κ nL ω pc lo st σ := by
  intro H locs ls hl hP hD hS
  refine va_gets C.1 C.2.1 (Z.2.2 k hk).1 hS C.2.2.2.1 (C.2.2.2.2.1 _ hw _) (fun _ h => h) hd ?_
  have h1 := kk H locs ls hl hP hD hS
  simp only [List.map_cons, cvV, Z.2.1 k (Nat.lt_succ_of_lt hk)] at h1
  exact h1
theorem x_getsN (C : Cx κ nL lev cc own mnm) (Z : Zx κ ω) {idx k : Nat} {host : String} (hk : k < 3) (hw : Cond.fieldLinkNest own idx "PegDiscs" (snm k) "[I" host ∈ TB) (hd : decode cc pc = .ok (.getstatic idx, 3)) (kk : X κ nL ω (pc + 3) lo (.ref (1000000 + k) :: st) σ) : X κ nL ω pc lo st σ := by
  intro H locs ls hl hP hD hS
  refine va_getsN C.1 C.2.1 (Z.2.2 k hk).1 hS C.2.2.2.1 (C.2.2.2.2.1 _ hw _) (fun _ h => h) hd ?_
  have h1 := kk H locs ls hl hP hD hS
  simp only [List.map_cons, cvV, Z.2.1 k (Nat.lt_succ_of_lt hk)] at h1
  exact h1
theorem x_sald (C : Cx κ nL lev cc own mnm) (Z : Zx κ ω) {k : Nat} (hk : k < 3) {x y : Int32} (hd : decode cc pc = .ok (.iaload, 1)) (hg : sA k x = some y) (kk : X κ nL ω (pc + 1) lo (.int y :: st) σ) : X κ nL ω pc lo (.int x :: .ref (1000000 + k) :: st) σ := by
  intro H locs ls hl hP hD hS
  obtain ⟨hin, rfl⟩ := sA_spec hg
  have h1 := va_ti C.1 C.2.1 (Z.2.2 k hk).2 hS hin rfl hd (kk H locs ls hl hP hD hS)
  simp only [List.map_cons, cvV, Z.2.1 k (Nat.lt_succ_of_lt hk)]
  exact h1
end Stat
/-! arraycopy of int rows (System.arraycopy, one kind of row) -/
def cpI (N : Nat) (σ : Hp) (a : Nat) (i : Int32) (b : Nat) (j n : Int32) : Option Hp := if a < N ∧ b < N then (match σ a, σ b with
  | .inl (c0, n0, .inl f), .inl (c1, n1, .inl g) => if (c0 = 0 ∧ c1 = 0) ∧ (¬ i < 0 ∧ ¬ j < 0 ∧ ¬ n < 0) ∧ i.toNatClampNeg + n.toNatClampNeg ≤ n0 ∧ j.toNatClampNeg + n.toNatClampNeg ≤ n1 then some (va_up σ b (.inl (0, n1, .inl (va_cpy f g i.toNatClampNeg j.toNatClampNeg n.toNatClampNeg)))) else none
  | _, _ => none) else none
theorem cpI_spec {N : Nat} {σ σ' : Hp} {a b : Nat} {i j n : Int32} (h : cpI N σ a i b j n = some σ') : a < N ∧ b < N ∧ ∃ n0 n1 f g, σ a = .inl (0, n0, .inl f) ∧ σ b = .inl (0, n1, .inl g) ∧ (¬ i < 0 ∧ ¬ j < 0 ∧ ¬ n < 0) ∧ i.toNatClampNeg + n.toNatClampNeg ≤ n0 ∧ j.toNatClampNeg + n.toNatClampNeg ≤ n1 ∧ σ' = va_up σ b (.inl (0, n1, .inl (va_cpy f g i.toNatClampNeg j.toNatClampNeg n.toNatClampNeg))) := by
  unfold cpI at h
  split at h
  case isFalse => cases h
  case isTrue hi =>
    refine ⟨hi.1, hi.2, ?_⟩
    split at h
    case h_2 => cases h
    case h_1 c0 n0 f c1 n1 g ha hb =>
      split at h
      case isFalse => cases h
      case isTrue hc =>
        cases h
        exact ⟨n0, n1, f, g, by rw [ha, hc.1.1], by rw [hb, hc.1.2], hc.2.1, hc.2.2.1, hc.2.2.2, rfl⟩
theorem x_copy {κ : Kx} {nL lev : Nat} {cc : ByteArray} {own mnm : String} {ω : Om} {pc : Nat} {lo : List (Option Value)} {st : List Value} {σ σ' : Hp} (C : Cx κ nL lev cc own mnm) {idx : Nat} {a b : Nat} {i j n : Int32} (hlev : 1 ≤ lev) (hlk : Cond.methodLink own idx arraycopyName ∈ TB) (hnat : Cond.native arraycopyName ∈ TB) (hstat : Cond.static arraycopyName ∈ TB) (hini : Cond.initialized "java/lang/System" ∈ TB) (hst : (st.map fun v => v.category).sum + (nativeFrameWords "java/lang/System" "arraycopy" 5 + 11) ≤ 40) (hd : decode cc pc = .ok (.invokestatic idx, 3)) (hg : cpI ω.1 σ a i b j n = some σ') (k : X κ nL ω (pc + 3) lo st σ') : X κ nL ω pc lo (.int n :: .int j :: .ref b :: .int i :: .ref a :: st) σ := by
  intro H locs ls hl hP hD hS
  obtain ⟨ha, hb, n0, n1, f, g, ea, eb, ⟨h1, h2, h3⟩, h4, h5, rfl⟩ := cpI_spec hg
  have hU : ∀ w ∈ TB, w.before κ.args κ.s = true := fun w h => C.2.2.2.2.1 w h _
  obtain ⟨g1, g2⟩ := C.2.2.2.2.2.2.2.2.1
  refine va_copyi C.1 C.2.1 (by rw [C.2.2.1]; exact hl.1.symm) C.2.2.2.1 (hU _ hlk) (hU _ hnat) (hU _ hstat) (hU _ hini) C.2.2.2.2.2.1 hP hD hS a b 0 0 (wl_atE ha ea) (wl_atE hb eb) rfl rfl rfl h1 h2 h3 h4 h5 (fun _ _ => rfl) (by omega) (by rw [cats]; omega) hd (fun H1 locs1 hP hD hS => ?_)
  have hs := wl_set (cy := κ.cy) (ad := ω.2.1) (σ := σ) (.inl (0, n1, .inl (va_cpy f g i.toNatClampNeg j.toNatClampNeg n.toNatClampNeg))) hb
  simp only [cvE] at hs
  rw [hs] at hP hD
  exact k H1 locs1 ls hl hP hD hS
/-! the law's own script: the number 1000003 -/
def LX (κ : Kx) (L : Nat) (xs : Nat → Int32) : Prop := va_X (κ.cy 13) L xs κ.s κ.s.heap ∧ κ.cy 13 < κ.s.heap.size ∧ ¬ κ.A (κ.cy 13)
def scA (L : Nat) (xs : Nat → Int32) (x : Int32) : Option Int32 := if ¬ (x < 0 ∨ L ≤ x.toNatClampNeg) then some (xs x.toNatClampNeg) else none
theorem scA_spec {L : Nat} {xs : Nat → Int32} {x y : Int32} (h : scA L xs x = some y) : vp_in x L ∧ y = xs x.toNatClampNeg := by
  unfold scA at h
  split at h
  case isFalse => cases h
  case isTrue hc => cases h; exact ⟨hc, rfl⟩
section Script
variable {κ : Kx} {nL lev : Nat} {cc : ByteArray} {own mnm : String} {ω : Om} {pc : Nat} {lo : List (Option Value)} {st : List Value} {σ : Hp} {L : Nat} {xs : Nat → Int32}
theorem x_slen (C : Cx κ nL lev cc own mnm) (Z : Zx κ ω) (B : LX κ L xs) (hd : decode cc pc = .ok (.arraylength, 1)) (k : X κ nL ω (pc + 1) lo (.int (nI L) :: st) σ) : X κ nL ω pc lo (.ref 1000003 :: st) σ := by
  intro H locs ls hl hP hD hS
  have h1 := va_slen C.1 C.2.1 B.1 B.2.1 B.2.2 hS hd (k H locs ls hl hP hD hS)
  simp only [List.map_cons, cvV, Z.2.1 3 (by decide)]
  exact h1
theorem x_sld (C : Cx κ nL lev cc own mnm) (Z : Zx κ ω) (B : LX κ L xs) {x y : Int32} (hd : decode cc pc = .ok (.iaload, 1)) (hg : scA L xs x = some y) (k : X κ nL ω (pc + 1) lo (.int y :: st) σ) : X κ nL ω pc lo (.int x :: .ref 1000003 :: st) σ := by
  intro H locs ls hl hP hD hS
  obtain ⟨hin, rfl⟩ := scA_spec hg
  have h1 := va_sld C.1 C.2.1 B.1 B.2.1 B.2.2 hS hin hd (k H locs ls hl hP hD hS)
  simp only [List.map_cons, cvV, Z.2.1 3 (by decide)]
  exact h1
end Script
