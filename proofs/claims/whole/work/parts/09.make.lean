/-! methods that make cells -/
/-- what a cell holds speaks of numbers below N alone -/
def HW (N : Nat) (σ : Hp) : Prop := ∀ i, i < N → ∀ (cy ad ad' : Nat → Nat), (∀ j, j < N → ad j = ad' j) → cvE cy ad (σ i) = cvE cy ad' (σ i)
noncomputable def hw (N : Nat) (σ : Hp) : Option Unit := @ite _ (HW N σ) (Classical.propDecidable _) (some ()) none
theorem hw_spec {N : Nat} {σ : Hp} {u : Unit} (h : hw N σ = some u) : HW N σ := by
  unfold hw at h
  split at h
  case isTrue hc => exact hc
  case isFalse => cases h
theorem hw_of {N : Nat} {σ : Hp} (h : HW N σ) : hw N σ = some () := by
  unfold hw
  rw [if_pos h]
def rk (N : Nat) (l : List Nat) : Option Unit := if ∀ x ∈ l, x < N then some () else none
theorem rk_spec {N : Nat} {l : List Nat} {u : Unit} (h : rk N l = some u) : ∀ x ∈ l, x < N := by
  unfold rk at h
  split at h
  case isTrue hc => exact hc
  case isFalse => cases h
theorem wl_push {cy : Nat → Nat} {N : Nat} {ad : Nat → Nat} {σ : Hp} (c : va_E) (q : Nat) (hW : HW N σ) : wl cy N ad σ ++ [(q, cvE cy (va_up ad N q) c)] = wl cy (N + 1) (va_up ad N q) (va_up σ N c) := by
  unfold wl
  rw [List.range_succ, List.map_append]
  congr 1
  · apply List.map_congr_left
    intro i hi
    have h : i < N := List.mem_range.mp hi
    have hne : i ≠ N := by omega
    simp only [va_up, if_neg hne]
    rw [hW i h cy ad (fun j => if j = N then q else ad j) (fun j hj => by rw [if_neg (by omega)])]
    rfl
  · simp [va_up]
def okv (N : Nat) : Value → Prop
  | .ref i => i < N ∨ 1000000 ≤ i
  | _ => True
def okL (N : Nat) : List Value → Prop
  | [] => True
  | v :: vs => okv N v ∧ okL N vs
def okO (N : Nat) : List (Option Value) → Prop
  | [] => True
  | none :: vs => okO N vs
  | some v :: vs => okv N v ∧ okO N vs
theorem okv_eq {N : Nat} {v : Value} {ad ad' : Nat → Nat} (h : okv N v) (e : ∀ i, i < N ∨ 1000000 ≤ i → ad i = ad' i) : cvV ad v = cvV ad' v := by
  cases v <;> first | rfl | (simp only [cvV]; rw [e _ h])
theorem okL_eq {N : Nat} {ad ad' : Nat → Nat} (e : ∀ i, i < N ∨ 1000000 ≤ i → ad i = ad' i) : ∀ {st : List Value}, okL N st → st.map (cvV ad) = st.map (cvV ad') := by
  intro st
  induction st with
  | nil => intro _; rfl
  | cons v vs ih => intro h; rw [List.map_cons, List.map_cons, okv_eq h.1 e, ih h.2]
theorem okO_at {N : Nat} : ∀ {lo : List (Option Value)} {i : Nat} {v : Value}, okO N lo → lo[i]? = some (some v) → okv N v := by
  intro lo
  induction lo with
  | nil => intro i v _ h; simp at h
  | cons o os ih =>
    intro i v h hi
    cases i with
    | zero => simp at hi; subst hi; exact h.1
    | succ i =>
      have h2 : okO N os := by cases o with | none => exact h | some w => exact h.2
      exact ih h2 (by simpa using hi)
theorem lh_ad {ls : Array Slot} {nL N : Nat} {ad ad' : Nat → Nat} {lo : List (Option Value)} (e : ∀ i, i < N ∨ 1000000 ≤ i → ad i = ad' i) (h : lh ls nL ad lo) (ho : okO N lo) : lh ls nL ad' lo :=
  ⟨h.1, h.2.1, fun i v hi => by rw [← okv_eq (okO_at ho hi) e]; exact h.2.2 i v hi⟩
/-- later cells lie elsewhere; the elder ones stay -/
def Ag (N0 : Nat) (ad0 : Nat → Nat) (ω : Om) : Prop := N0 ≤ ω.1 ∧ ∀ i, i < N0 ∨ ω.1 ≤ i → ω.2.1 i = ad0 i
theorem Ag.rf (N : Nat) (ad : Nat → Nat) (c s : Nat) : Ag N ad (N, ad, c, s) := ⟨Nat.le_refl _, fun _ _ => rfl⟩
theorem Ag.new {N0 : Nat} {ad0 : Nat → Nat} {N : Nat} {ad : Nat → Nat} {c s c' s' : Nat} (q : Nat) (G : Ag N0 ad0 (N, ad, c, s)) : Ag N0 ad0 (N + 1, va_up ad N q, c', s') := by
  obtain ⟨g1, g2⟩ := G
  refine ⟨Nat.le_succ_of_le g1, fun i hi => ?_⟩
  have hne : i ≠ N := by
    rcases hi with h | h
    · exact Nat.ne_of_lt (Nat.lt_of_lt_of_le h g1)
    · exact Nat.ne_of_gt h
  show va_up ad N q i = ad0 i
  rw [va_up, if_neg hne]
  exact g2 i (hi.imp id (fun h => Nat.le_of_succ_le h))
theorem Ag.on {N0 : Nat} {ad0 : Nat → Nat} {N N' : Nat} {ad ad' : Nat → Nat} {c s c' s' : Nat} (G : Ag N0 ad0 (N, ad, c, s)) (h : N ≤ N') (h2 : ∀ i, i < N ∨ N' ≤ i → ad' i = ad i) : Ag N0 ad0 (N', ad', c', s') := by
  obtain ⟨g1, g2⟩ := G
  refine ⟨Nat.le_trans g1 h, fun i hi => ?_⟩
  show ad' i = ad0 i
  rcases hi with h3 | h3
  · rw [h2 i (Or.inl (Nat.lt_of_lt_of_le h3 g1))]; exact g2 i (Or.inl h3)
  · rw [h2 i (Or.inr h3)]; exact g2 i (Or.inr (Nat.le_trans h h3))
theorem Sd.on {cy ad ad' : Nat → Nat} {N N' : Nat} (h : Sd cy ad) (hN : N' ≤ 1000000) (h2 : ∀ i, i < N ∨ N' ≤ i → ad' i = ad i) : Sd cy ad' := fun k hk => by rw [h2 _ (Or.inr (by omega))]; exact h k hk
def rmA (lev mc ms : Nat) : Room := { frames := lev, cells := mc, slots := ms, locals := 40 * lev }
def PoA (D : va_G) (cy : Nat → Nat) (N : Nat) (ad : Nat → Nat) (σ : Hp) (sz : Nat) (Post : Option Value → Nat → Hp → Prop) : Array Value → State → Outcome → State → Prop := fun _ s0 oc t =>
  (∃ (v : Option Value) (N' : Nat) (ad' : Nat → Nat) (σ' : Hp), oc = .returned (v.map (cvV ad')) ∧ Post v N' σ' ∧ N ≤ N' ∧ (∀ i, i < N ∨ N' ≤ i → ad' i = ad i) ∧ va_P D vwCl (wl cy N' ad' σ') t.heap ∧ va_D (va_A (wl cy N ad σ) sz) (wl cy N' ad' σ')) ∧ va_F (va_A (wl cy N ad σ) sz) s0 t
def CtA (l : Launch) (D : va_G) (cy : Nat → Nat) (y : MethodName) (cc : ByteArray) (nL : Nat) (ret : Option FieldType) (lev mc ms : Nat) (As : List Value) (N : Nat) (σ : Hp) (Post : Option Value → Nat → Hp → Prop) : Prop :=
  ∀ (ad : Nat → Nat) (sz : Nat), Met l y [Cond.code y cc nL ret] (rmA lev mc ms) (Pr l D cy As N ad σ sz) (PoA D cy N ad σ sz Post) mc ms (va_A (wl cy N ad σ) sz)
/-- the end of a body that makes cells -/
def RtA (κ : Kx) (N0 : Nat) (ad0 : Nat → Nat) (mc ms : Nat) (ret : Option FieldType) (Post : Option Value → Nat → Hp → Prop) : Prop :=
  κ.meth.sig.returnType = ret ∧ ∀ (ω : Om) (H : Heap) (locs : List Loc) (v : Option Value) (σ : Hp), Ag N0 ad0 ω → va_P κ.D vwCl (wl κ.cy ω.1 ω.2.1 σ) H → va_D κ.A (wl κ.cy ω.1 ω.2.1 σ) → va_S κ.A κ.s.heap H locs → Post v ω.1 σ →
    ∃ (Qc : Array Value → State → Outcome → State → Prop) (free : Addr → Prop), κ.Q = MQ κ.below Qc κ.args κ.s mc ms free ∧ (∀ t : State, t.heap = H → κ.s.WarmedH t.vm → Qc κ.args κ.s (.returned (v.map (cvV ω.2.1))) t) ∧ ∀ q ∈ locs, free q.base
theorem CtA.intro {l : Launch} {D : va_G} {cy : Nat → Nat} {y : MethodName} {cc : ByteArray} {nL : Nat} {ret : Option FieldType} {lev mc ms : Nat} {As : List Value} {N : Nat} {σ : Hp} {Post : Option Value → Nat → Hp → Prop}
    (lo : List (Option Value)) (hy : plainName y.cls = true) (hlo : loE As ++ List.replicate (nL - (loE As).length) none = lo) (hln : (loE As).length ≤ nL)
    (body : ∀ (κ : Kx) (ad : Nat → Nat), κ.l = l → κ.D = D → κ.cy = cy → κ.R.cells = mc → κ.R.slots = ms → Cx κ nL lev cc y.cls y.name → Zx κ (N, ad, 0, 0) → RtA κ N ad mc ms ret Post → X κ nL (N, ad, 0, 0) 0 lo [] σ) : CtA l D cy y cc nL ret lev mc ms As N σ Post := by
  intro ad sz
  refine Met.ofW (cc := cc) (maxL := nL) (ret := ret) hy rfl ?_
  intro p e s m args below meth c s₁ B hml hv
  obtain ⟨rfl, hsz, hU, hK, hP, hD0, hSd, hSx⟩ := hv
  subst hsz
  have hD := hD0.self (sz := s.heap.size)
  have hl := lv_entry (As.map (cvV ad)) (n := nL) (by rw [loE_len]; exact hln)
  rw [lg_entry_eq]
  have hlh : lh ((lg_sl (As.map (cvV ad)) ++ List.replicate (nL - (lg_sl (As.map (cvV ad))).length) Slot.unset).toArray) nL ad lo := by
    refine ⟨hl.1, hl.2.1, fun i v hi => ?_⟩
    rw [← hlo] at hi
    have h2 : (loE As)[i]? = some (some v) := by
      rcases Nat.lt_or_ge i (loE As).length with h | h
      · rwa [List.getElem?_append_left h] at hi
      · rw [List.getElem?_append_right h] at hi
        have := List.mem_of_getElem? hi
        rw [List.mem_replicate] at this
        cases this.2
    have := loE_mem ad As 0 i v h2
    rw [Nat.zero_add] at this
    exact hl.2.2 _ this
  refine body (p, l, e, (headSpec [Cond.code y cc nL ret] (rmA lev mc ms)).room, s, m, (As.map (cvV ad)).toArray, below, meth, c, va_A (wl cy N ad σ) s.heap.size, D, cy, MQ below (PoA D cy N ad σ s.heap.size Post) (As.map (cvV ad)).toArray s mc ms (va_A (wl cy N ad σ) s.heap.size)) ad rfl rfl rfl rfl rfl ?_ ⟨⟨Nat.zero_le _, Nat.zero_le _⟩, hSd, hSx⟩ ?_ s.heap [] _ hlh hP hD va_S.rf
  · exact ⟨B.exec, B.bytes, hml, findClass_of_methodNamed B.named, hU, hK, B.notSynchronized, fun q h => Or.inr h, ⟨Nat.le_refl _, Nat.le_refl _⟩, (name_of_methodNamed B.named B.method).1⟩
  · refine ⟨B.returns, fun ω H locs v σ' hG hP' hD' hS' hp => ⟨_, _, rfl, fun t ht hW => ⟨⟨v, ω.1, ω.2.1, σ', rfl, hp, hG.1, hG.2, by rw [ht]; exact hP', hD'⟩, hS'.F ht⟩, hS'.2.2⟩⟩
section Make
variable {κ : Kx} {nL lev : Nat} {cc : ByteArray} {own mnm : String} {N : Nat} {ad : Nat → Nat} {c s : Nat} {pc : Nat} {lo : List (Option Value)} {st : List Value} {σ : Hp} {N0 mc ms : Nat} {ad0 : Nat → Nat} {Post : Option Value → Nat → Hp → Prop}
theorem x_iretA (C : Cx κ nL lev cc own mnm) (E : RtA κ N0 ad0 mc ms (some .int) Post) (G : Ag N0 ad0 (N, ad, c, s)) (hc : c ≤ mc ∧ s ≤ ms) {v : Int32} (hd : decode cc pc = .ok (.ireturn, 1)) (hp : Post (some (.int v)) N σ) : X κ nL (N, ad, c, s) pc lo [.int v] σ := by
  intro H locs ls hl hP hD hS
  obtain ⟨Qc, free, hQ, h1, h2⟩ := E.2 (N, ad, c, s) H locs _ σ G hP hD hS hp
  rw [hQ]
  exact W.widen hc.1 hc.2 (W.iret C.1 C.2.1 E.1 h1 h2 hd C.2.2.2.2.2.2.1)
theorem x_lretA (C : Cx κ nL lev cc own mnm) (E : RtA κ N0 ad0 mc ms (some .long) Post) (G : Ag N0 ad0 (N, ad, c, s)) (hc : c ≤ mc ∧ s ≤ ms) {v : Int64} (hd : decode cc pc = .ok (.lreturn, 1)) (hp : Post (some (.long v)) N σ) : X κ nL (N, ad, c, s) pc lo [.long v] σ := by
  intro H locs ls hl hP hD hS
  obtain ⟨Qc, free, hQ, h1, h2⟩ := E.2 (N, ad, c, s) H locs _ σ G hP hD hS hp
  rw [hQ]
  exact W.widen hc.1 hc.2 (W.lret C.1 C.2.1 E.1 h1 h2 hd C.2.2.2.2.2.2.1)
theorem x_vretA (C : Cx κ nL lev cc own mnm) (E : RtA κ N0 ad0 mc ms none Post) (G : Ag N0 ad0 (N, ad, c, s)) (hc : c ≤ mc ∧ s ≤ ms) (hd : decode cc pc = .ok (.return_, 1)) (hp : Post none N σ) : X κ nL (N, ad, c, s) pc lo [] σ := by
  intro H locs ls hl hP hD hS
  obtain ⟨Qc, free, hQ, h1, h2⟩ := E.2 (N, ad, c, s) H locs _ σ G hP hD hS hp
  rw [hQ]
  exact W.widen hc.1 hc.2 (W.vret C.1 C.2.1 E.1 h1 h2 hd C.2.2.2.2.2.2.1)
theorem x_aretA (C : Cx κ nL lev cc own mnm) {cn : String} (E : RtA κ N0 ad0 mc ms (some (.object cn)) Post) (G : Ag N0 ad0 (N, ad, c, s)) (hc : c ≤ mc ∧ s ≤ ms) {q : Option Nat} (hd : decode cc pc = .ok (.areturn, 1)) (hp : Post (some (va_rf q)) N σ) : X κ nL (N, ad, c, s) pc lo [va_rf q] σ := by
  intro H locs ls hl hP hD hS
  obtain ⟨Qc, free, hQ, h1, h2⟩ := E.2 (N, ad, c, s) H locs _ σ G hP hD hS hp
  rw [hQ]
  exact W.widen hc.1 hc.2 (W.aret C.1 C.2.1 E.1 (Or.inl ⟨_, rfl⟩) (by cases q with | none => exact Or.inl rfl | some r => exact Or.inr ⟨_, rfl⟩) h1 h2 hd C.2.2.2.2.2.2.1)
theorem x_objInit {ω : Om} (C : Cx κ nL lev cc own mnm) {idx i : Nat} (hlev : 1 ≤ lev) (h1 : Cond.methodLink own idx Lib.objectInit ∈ TB) (h2 : Cond.instanceMethod Lib.objectInit ∈ TB) (h3 : Cond.code Lib.objectInit ⟨#[0xb1]⟩ 1 none ∈ TB) (hst : (st.map fun v => v.category).sum ≤ 20) (hd : decode cc pc = .ok (.invokespecial idx, 3)) (k : X κ nL ω (pc + 3) lo st σ) : X κ nL ω pc lo (.ref i :: st) σ := by
  intro H locs ls hl hP hD hS
  have hU : ∀ w ∈ TB, w.before κ.args κ.s = true := fun w h => C.2.2.2.2.1 w h _
  obtain ⟨g1, g2⟩ := C.2.2.2.2.2.2.2.2.1
  refine W.objInit C.1 C.2.1 C.2.2.2.1 (hU _ h1) (hU _ h2) (hU _ h3) rfl (by rw [C.2.2.1]; exact hl.1) rfl hd (by omega) ?_ (k H locs ls hl hP hD hS)
  have hm : 2 * (F0 κ.m pc ls ((.ref i :: st : List Value).map (cvV ω.2.1))).monitorRoom = 0 := rfl
  rw [cats]
  omega
/-- a class that is made: its words; its fields at first -/
def NW (own : String) (idx ci n : Nat) (fs : List Value) : Prop := ∃ Cn T ty, CI ci Cn T n ty ∧ Cond.classLink own idx Cn ∈ TB ∧ Cond.instantiable Cn n ∈ TB ∧ Cond.initialized Cn ∈ TB ∧ (∀ j, j < n → defaultValue (ty j) = vp_V fs j) ∧ ∀ a : Nat → Nat, fs.map (cvV a) = fs
theorem x_new (C : Cx κ nL lev cc own mnm) {idx ci n : Nat} {fs : List Value} (nw : NW own idx ci n fs) (hN0 : N < 1000000) (hW : HW N σ) (hc : c + 1 ≤ κ.R.cells ∧ s + n ≤ κ.R.slots) (hlo : okO N lo) (hst : okL N st) (hd : decode cc pc = .ok (.new idx, 3)) (k : ∀ q, X κ nL (N + 1, va_up ad N q, c + 1, s + n) (pc + 3) lo (.ref N :: st) (va_up σ N (.inr (ci, fs)))) : X κ nL (N, ad, c, s) pc lo st σ := by
  intro H locs ls hl hP hD hS
  have hU : ∀ w ∈ TB, w.before κ.args κ.s = true := fun w h => C.2.2.2.2.1 w h _
  obtain ⟨Cn, T, ty, hci, h1, h2, h3, h4, h5⟩ := nw
  refine va_new C.1 C.2.1 hU hci.2.1 ty hci.2.2.1 C.2.2.2.1 (hU _ h1) (hU _ h2) (hU _ h3) C.2.2.2.2.2.1 hP hD hS C.2.2.2.2.2.2.2.1 hci.1 h4 hc.1 hc.2 hd (fun q H1 hP hD hS => ?_)
  have e : ∀ i, i < N ∨ 1000000 ≤ i → ad i = va_up ad N q i := fun i hi => by rw [va_up, if_neg (by omega)]
  have hp := wl_push (cy := κ.cy) (ad := ad) (.inr (ci, fs)) q hW
  simp only [cvE, h5] at hp
  have hP : va_P κ.D vwCl (wl κ.cy N ad σ ++ [(q, .inr (ci, fs))]) H1 := hP
  have hD : va_D κ.A (wl κ.cy N ad σ ++ [(q, .inr (ci, fs))]) := hD
  rw [hp] at hP hD
  have h6 := k q H1 locs ls (lh_ad e hl hlo) hP hD hS
  simp only [List.map_cons, cvV] at h6
  rw [← okL_eq e hst, show va_up ad N q N = q from if_pos rfl] at h6
  exact h6
theorem x_newaG (C : Cx κ nL lev cc own mnm) {atype : ArrayType} {ty : FieldType} {tag n : Nat} {x : Int32} {a0 : (Nat → Int32) ⊕ (Nat → Int64) ⊕ (Nat → UInt32) ⊕ (Nat → UInt64) ⊕ (Nat → Option Nat)} (hw : Cond.arrayClass ty ∈ TB) (hty : newarray.typeOf atype = ty) (htag : (tyL κ.cy)[tag]? = some (κ.cy tag, ty)) (hra : ∀ (U : State) (a b : ClassId), va_RA U a ty → va_RA U b ty → a = b) (ha : ∀ cA : ClassId, vp_cell cA (n, a0) = arrV cA n (fun _ => defaultValue ty)) (hcv : ∀ cy a : Nat → Nat, cvE cy a (.inl (tag, n, a0)) = .inl (cy tag, n, a0)) (hn : ¬ x < 0) (hN : x.toNatClampNeg = n) (hbytes : n * componentBytes ty ≤ 536870912) (hN0 : N < 1000000) (hW : HW N σ) (hc : c + 1 ≤ κ.R.cells ∧ s + n ≤ κ.R.slots) (hlo : okO N lo) (hst : okL N st) (hd : decode cc pc = .ok (.newarray atype, 2)) (k : ∀ q, X κ nL (N + 1, va_up ad N q, c + 1, s + n) (pc + 2) lo (.ref N :: st) (va_up σ N (.inl (tag, n, a0)))) : X κ nL (N, ad, c, s) pc lo (.int x :: st) σ := by
  intro H locs ls hl hP hD hS
  have hU : ∀ w ∈ TB, w.before κ.args κ.s = true := fun w h => C.2.2.2.2.1 w h _
  refine va_newa C.1 C.2.1 (by rw [hty]; exact hU _ hw) hty C.2.2.2.2.2.1 hP hD hS C.2.2.2.2.2.2.2.1 ha hn hN hbytes hc.1 hc.2 hd (fun q cA H1 hK' hP hD hS => ?_)
  have e1 : cA = κ.cy tag := hra κ.s _ _ (hK'.2 (tyL κ.cy).length (cA, ty) (by simp)).2 (C.2.2.2.2.2.1.2 tag _ htag).2
  subst e1
  have e : ∀ i, i < N ∨ 1000000 ≤ i → ad i = va_up ad N q i := fun i hi => by rw [va_up, if_neg (by omega)]
  have hp := wl_push (cy := κ.cy) (ad := ad) (.inl (tag, n, a0)) q hW
  rw [hcv] at hp
  have hP : va_P κ.D vwCl (wl κ.cy N ad σ ++ [(q, .inl (κ.cy tag, n, a0))]) H1 := hP
  have hD : va_D κ.A (wl κ.cy N ad σ ++ [(q, .inl (κ.cy tag, n, a0))]) := hD
  rw [hp] at hP hD
  have h6 := k q H1 locs ls (lh_ad e hl hlo) hP hD hS
  simp only [List.map_cons, cvV] at h6
  rw [← okL_eq e hst, show va_up ad N q N = q from if_pos rfl] at h6
  exact h6
theorem x_newI (C : Cx κ nL lev cc own mnm) (n : Nat) {x : Int32} (hw : Cond.arrayClass .int ∈ TB) (hn : ¬ x < 0) (hN : x.toNatClampNeg = n) (hbytes : n * 4 ≤ 536870912) (hN0 : N < 1000000) (hW : HW N σ) (hc : c + 1 ≤ κ.R.cells ∧ s + n ≤ κ.R.slots) (hlo : okO N lo) (hst : okL N st) (hd : decode cc pc = .ok (.newarray .int, 2)) (k : ∀ q, X κ nL (N + 1, va_up ad N q, c + 1, s + n) (pc + 2) lo (.ref N :: st) (va_up σ N (.inl (0, n, .inl (fun _ => 0))))) : X κ nL (N, ad, c, s) pc lo (.int x :: st) σ :=
  x_newaG C (tag := 0) hw rfl rfl (fun U a b h1 h2 => Option.some.inj ((show U.vm.findClass _ = some a from h1).symm.trans h2)) (fun _ => rfl) (fun _ _ => rfl) hn hN hbytes hN0 hW hc hlo hst hd k
theorem x_newJ (C : Cx κ nL lev cc own mnm) (n : Nat) {x : Int32} (hw : Cond.arrayClass .long ∈ TB) (hn : ¬ x < 0) (hN : x.toNatClampNeg = n) (hbytes : n * 8 ≤ 536870912) (hN0 : N < 1000000) (hW : HW N σ) (hc : c + 1 ≤ κ.R.cells ∧ s + n ≤ κ.R.slots) (hlo : okO N lo) (hst : okL N st) (hd : decode cc pc = .ok (.newarray .long, 2)) (k : ∀ q, X κ nL (N + 1, va_up ad N q, c + 1, s + n) (pc + 2) lo (.ref N :: st) (va_up σ N (.inl (1, n, .inr (.inl (fun _ => 0)))))) : X κ nL (N, ad, c, s) pc lo (.int x :: st) σ :=
  x_newaG C (tag := 1) hw rfl rfl (fun U a b h1 h2 => Option.some.inj ((show U.vm.findClass _ = some a from h1).symm.trans h2)) (fun _ => rfl) (fun _ _ => rfl) hn hN hbytes hN0 hW hc hlo hst hd k
theorem x_newB (C : Cx κ nL lev cc own mnm) (n : Nat) {x : Int32} (hw : Cond.arrayClass .byte ∈ TB) (hn : ¬ x < 0) (hN : x.toNatClampNeg = n) (hbytes : n * 1 ≤ 536870912) (hN0 : N < 1000000) (hW : HW N σ) (hc : c + 1 ≤ κ.R.cells ∧ s + n ≤ κ.R.slots) (hlo : okO N lo) (hst : okL N st) (hd : decode cc pc = .ok (.newarray .byte, 2)) (k : ∀ q, X κ nL (N + 1, va_up ad N q, c + 1, s + n) (pc + 2) lo (.ref N :: st) (va_up σ N (.inl (2, n, .inl (fun _ => 0))))) : X κ nL (N, ad, c, s) pc lo (.int x :: st) σ :=
  x_newaG C (tag := 2) hw rfl rfl (fun U a b h1 h2 => Option.some.inj ((show U.vm.findClass _ = some a from h1).symm.trans h2)) (fun _ => rfl) (fun _ _ => rfl) hn hN hbytes hN0 hW hc hlo hst hd k
theorem x_newZ (C : Cx κ nL lev cc own mnm) (n : Nat) {x : Int32} (hw : Cond.arrayClass .boolean ∈ TB) (hn : ¬ x < 0) (hN : x.toNatClampNeg = n) (hbytes : n * 1 ≤ 536870912) (hN0 : N < 1000000) (hW : HW N σ) (hc : c + 1 ≤ κ.R.cells ∧ s + n ≤ κ.R.slots) (hlo : okO N lo) (hst : okL N st) (hd : decode cc pc = .ok (.newarray .boolean, 2)) (k : ∀ q, X κ nL (N + 1, va_up ad N q, c + 1, s + n) (pc + 2) lo (.ref N :: st) (va_up σ N (.inl (3, n, .inl (fun _ => 0))))) : X κ nL (N, ad, c, s) pc lo (.int x :: st) σ :=
  x_newaG C (tag := 3) hw rfl rfl (fun U a b h1 h2 => Option.some.inj ((show U.vm.findClass _ = some a from h1).symm.trans h2)) (fun _ => rfl) (fun _ _ => rfl) hn hN hbytes hN0 hW hc hlo hst hd k
theorem x_newQ (C : Cx κ nL lev cc own mnm) {idx tag n : Nat} {x : Int32} {cn : String} (htag : (tyL κ.cy)[tag]? = some (κ.cy tag, .object cn)) (h1 : Cond.classLink own idx cn ∈ TB) (h2 : Cond.arrayOver (.object cn) ∈ TB) (hn : ¬ x < 0) (hN : x.toNatClampNeg = n) (hbytes : n * 4 ≤ 536870912) (hN0 : N < 1000000) (hW : HW N σ) (hc : c + 1 ≤ κ.R.cells ∧ s + n ≤ κ.R.slots) (hlo : okO N lo) (hst : okL N st) (hd : decode cc pc = .ok (.anewarray idx, 3)) (k : ∀ q, X κ nL (N + 1, va_up ad N q, c + 1, s + n) (pc + 3) lo (.ref N :: st) (va_up σ N (.inl (tag, n, .inr (.inr (.inr (.inr (fun _ => none)))))))) : X κ nL (N, ad, c, s) pc lo (.int x :: st) σ := by
  intro H locs ls hl hP hD hS
  have hU : ∀ w ∈ TB, w.before κ.args κ.s = true := fun w h => C.2.2.2.2.1 w h _
  refine va_newq C.1 C.2.1 C.2.2.2.1 (hU _ h1) (va_AO.of (hU _ h2)) C.2.2.2.2.2.1 hP hD hS C.2.2.2.2.2.2.2.1 hn hN hbytes hc.1 hc.2 hd (fun q cA H1 hK' hP hD hS => ?_)
  have e1 : cA = κ.cy tag := by
    obtain ⟨_, _, _, _, _, g1⟩ := (hK'.2 (tyL κ.cy).length (cA, .object cn) (by simp)).2
    obtain ⟨_, _, _, _, _, g2⟩ := (C.2.2.2.2.2.1.2 tag _ htag).2
    exact Option.some.inj (g1.symm.trans g2)
  subst e1
  have e : ∀ i, i < N ∨ 1000000 ≤ i → ad i = va_up ad N q i := fun i hi => by rw [va_up, if_neg (by omega)]
  have hp := wl_push (cy := κ.cy) (ad := ad) (.inl (tag, n, .inr (.inr (.inr (.inr (fun _ => none)))))) q hW
  have hP : va_P κ.D vwCl (wl κ.cy N ad σ ++ [(q, .inl (κ.cy tag, n, .inr (.inr (.inr (.inr (fun _ => none))))))]) H1 := hP
  have hD : va_D κ.A (wl κ.cy N ad σ ++ [(q, .inl (κ.cy tag, n, .inr (.inr (.inr (.inr (fun _ => none))))))]) := hD
  simp only [cvE, Option.map_none] at hp
  rw [hp] at hP hD
  have h6 := k q H1 locs ls (lh_ad e hl hlo) hP hD hS
  simp only [List.map_cons, cvV] at h6
  rw [← okL_eq e hst, show va_up ad N q N = q from if_pos rfl] at h6
  exact h6
end Make
/-- a reference into a row of references: the object is there, of the row's class -/
def sR (t ci N : Nat) (σ : Hp) (i : Nat) (x : Int32) (r : Nat) : Option Hp := if i < N ∧ r < N then (match σ i, σ r with
  | .inl (c, n, .inr (.inr (.inr (.inr f)))), .inr o => if (c = t ∧ o.1 = ci) ∧ ¬ (x < 0 ∨ n ≤ x.toNatClampNeg) then some (va_up σ i (.inl (t, n, .inr (.inr (.inr (.inr (va_up f x.toNatClampNeg (some r)))))))) else none
  | _, _ => none) else none
theorem sR_spec {t ci N : Nat} {σ σ' : Hp} {i r : Nat} {x : Int32} (h : sR t ci N σ i x r = some σ') : i < N ∧ r < N ∧ ∃ n f fs, σ i = .inl (t, n, .inr (.inr (.inr (.inr f)))) ∧ σ r = .inr (ci, fs) ∧ vp_in x n ∧ σ' = va_up σ i (.inl (t, n, .inr (.inr (.inr (.inr (va_up f x.toNatClampNeg (some r))))))) := by
  unfold sR at h
  split at h
  case isFalse => cases h
  case isTrue hi =>
    refine ⟨hi.1, hi.2, ?_⟩
    split at h
    case h_2 => cases h
    case h_1 c n f o ha hb =>
      split at h
      case isFalse => cases h
      case isTrue hc =>
        cases h
        exact ⟨n, f, o.2, by rw [ha, hc.1.1], by rw [hb, ← hc.1.2], hc.2, rfl⟩
section Make2
variable {κ : Kx} {nL lev : Nat} {cc : ByteArray} {own mnm : String} {ω : Om} {pc : Nat} {lo : List (Option Value)} {st : List Value} {σ : Hp}
theorem x_aast (C : Cx κ nL lev cc own mnm) {t ci i r : Nat} {x : Int32} {rc : vw_C} {σ' : Hp} (hcl : vwCl[ci]? = some rc) (ht : (tyL κ.cy)[t]? = some (κ.cy t, .object rc.1)) (hd : decode cc pc = .ok (.aastore, 1)) (hg : sR t ci ω.1 σ i x r = some σ') (k : X κ nL ω (pc + 1) lo st σ') : X κ nL ω pc lo (.ref r :: .int x :: .ref i :: st) σ := by
  intro H locs ls hl hP hD hS
  obtain ⟨hi, hr, n, f, fs, ea, eb, hin, rfl⟩ := sR_spec hg
  refine va_astq C.1 C.2.1 C.2.2.2.2.2.1 hP hD hS i t r ci (wl_atE hi ea) ht (wl_atE hr eb) hcl hin hd (fun H1 locs1 hP hD hS => ?_)
  have hs := wl_set (cy := κ.cy) (ad := ω.2.1) (σ := σ) (.inl (t, n, .inr (.inr (.inr (.inr (va_up f x.toNatClampNeg (some r))))))) hi
  have hf : (fun k => (va_up f x.toNatClampNeg (some r) k).map ω.2.1) = va_up (fun k => (f k).map ω.2.1) x.toNatClampNeg (some (ω.2.1 r)) := by
    funext k
    unfold va_up
    split <;> rfl
  simp only [cvE, hf] at hs
  rw [hs] at hP hD
  exact k H1 locs1 ls hl hP hD hS
end Make2
/-! calls of methods that make cells -/
theorem x_afterA {κ : Kx} {nL N : Nat} {ad : Nat → Nat} {c s mc ms : Nat} {pc : Nat} {lo : List (Option Value)} {rest st : List Value} {σ : Hp} {Post : Option Value → Nat → Hp → Prop} {H : Heap} {locs : List Loc} {ls : Array Slot} {as : Array Value}
    (hr : va_Run κ.p κ.l κ.e κ.R κ.s κ.m κ.args κ.below κ.meth κ.c H locs c s mc ms (F0 κ.m pc ls (st.map (cvV ad))) (rest.map (cvV ad)) (PoA κ.D κ.cy N ad σ H.size Post as) (va_A (wl κ.cy N ad σ) H.size))
    (hl : lh ls nL ad lo) (hP : va_P κ.D vwCl (wl κ.cy N ad σ) H) (hD : va_D κ.A (wl κ.cy N ad σ)) (hS : va_S κ.A κ.s.heap H locs) (hA : ∀ q, κ.s.heap.size ≤ q → κ.A q) (hlo : okO N lo) (hst : okL N rest) (hNb : ∀ v N' σ', Post v N' σ' → N' ≤ 1000000)
    (k : ∀ (v : Option Value) (N' : Nat) (ad' : Nat → Nat) (σ' : Hp), Post v N' σ' → N ≤ N' → (∀ i, i < N ∨ N' ≤ i → ad' i = ad i) → X κ nL (N', ad', c + mc, s + ms) (pc + 3) lo (v.toList ++ rest) σ') :
    W κ.p κ.l κ.e κ.R κ.s κ.m κ.args κ.below κ.meth κ.c H locs c s κ.Q (F0 κ.m pc ls (st.map (cvV ad))) := by
  have hF := wl_F hD hS hA
  intro T hT X0
  obtain ⟨v, st₀, t, T', L, h0, X', hL, e1, e2, ⟨⟨v', N', ad', σ', hv, hp, hN, had, hP', hD'⟩, hz, hk⟩, stp⟩ := hr T hT X0
  cases hv
  rw [h0] at hz hk
  have hS' : va_S κ.A κ.s.heap T'.heap (locs ++ L) := ⟨Nat.le_trans hS.1 (by rw [e1]; exact hz), fun q h1 h2 => by rw [e1, hk q (Nat.lt_of_lt_of_le h1 hS.1) (fun z => h2 (hF q z))]; exact hS.2.1 q h1 h2, fun q hq => by
    rcases List.mem_append.mp hq with h | h
    · exact hS.2.2 q h
    · exact hF _ (hL q h)⟩
  have hNb' := hNb _ _ _ hp
  have e : ∀ i, i < N ∨ 1000000 ≤ i → ad i = ad' i := fun i hi => (had i (hi.imp id (fun h => Nat.le_trans hNb' h))).symm
  obtain ⟨t2, a1, b1⟩ := k v' N' ad' σ' hp hN had T'.heap (locs ++ L) ls (lh_ad e hl hlo) (by rw [e1]; exact hP') (hD'.weaken (fun _ _ _ h => hF _ h)) hS' T' rfl X'
  refine ⟨t2, stp t2 ?_, b1⟩
  have e3 : (v'.toList ++ rest).map (cvV ad') = (v'.map (cvV ad')).toList ++ rest.map (cvV ad) := by
    rw [List.map_append, okL_eq e hst]; cases v' <;> simp
  rw [e3] at a1
  exact a1
section CallsA
variable {κ : Kx} {nL lev : Nat} {cc : ByteArray} {own mnm : String} {N : Nat} {ad : Nat → Nat} {c s : Nat} {pc : Nat} {lo : List (Option Value)} {σ : Hp} {Post : Option Value → Nat → Hp → Prop}
theorem x_callVA (C : Cx κ nL lev cc own mnm) (Z : Zx κ (N, ad, c, s)) {y : MethodName} {cc' : ByteArray} {nL' : Nat} {ret : Option FieldType} {lev' mc ms n idx ci b : Nat} {As rest st : List Value} (mv : MV ci y cc' nL' ret n) (lk : LK own idx y) (hb : ∃ fs, b < N ∧ σ b = .inr (ci, fs)) (hM : CtA κ.l κ.D κ.cy y cc' nL' ret lev' mc ms (.ref b :: As) N σ Post) (hlev : lev' < lev) (hn : As.length = n) (hst : As.reverse ++ .ref b :: rest = st) (hrest : (rest.map fun v => v.category).sum ≤ 8) (hlo : okO N lo) (hok : okL N rest) (hNb : ∀ v N' σ', Post v N' σ' → N' ≤ 1000000)
    (hc : c + mc ≤ κ.R.cells ∧ s + ms ≤ κ.R.slots) (hd : decode cc pc = .ok (.invokevirtual idx, 3)) (k : ∀ (v : Option Value) (N' : Nat) (ad' : Nat → Nat) (σ' : Hp), Post v N' σ' → N ≤ N' → (∀ i, i < N ∨ N' ≤ i → ad' i = ad i) → X κ nL (N', ad', c + mc, s + ms) (pc + 3) lo (v.toList ++ rest) σ') : X κ nL (N, ad, c, s) pc lo st σ := by
  intro H locs ls hl hP hD hS
  have hU : ∀ w ∈ TB, w.before κ.args κ.s = true := fun w h => C.2.2.2.2.1 w h _
  obtain ⟨⟨hcode, hini, ⟨hy1, hy2, hy3⟩, hnl⟩, hinst, hsel, T, kc, hcl⟩ := mv
  have hG : GoodIn TB [Cond.code y cc' nL' ret] := fun w hw => by
    rw [List.mem_singleton.mp hw]; exact ⟨hcode, good_of_word (by first | rfl | exact (List.mem_filter.mp hcode).2)⟩
  have hR : (rmA lev' mc ms).frames + 1 ≤ κ.R.frames ∧ 8 + (nL' + 11) + (rmA lev' mc ms).locals ≤ κ.R.locals := by
    obtain ⟨h1, h2⟩ := C.2.2.2.2.2.2.2.2.1
    constructor
    · show lev' + 1 ≤ _; omega
    · show 8 + (nL' + 11) + 40 * lev' ≤ _; omega
  obtain ⟨fs, hbN, hbe⟩ := hb
  have hrecv := va_recv C.2.2.2.2.2.1 hP hcl (wl_atE hbN hbe)
  have hPre : ∀ U : State, U.heap = H → κ.s.WarmedH U.vm → Pr κ.l κ.D κ.cy (.ref b :: As) N ad σ H.size (Value.ref (ad b) :: As.map (cvV ad)).toArray U := fun U hUH hW => ⟨rfl, by rw [hUH], C.2.2.2.2.1.warm hW, va_K.moved hW.alike C.2.2.2.2.2.1, by rw [hUH]; exact hP, hD.weaken (fun _ _ _ _ => trivial), Z.2.1, Z.2.2.call hS hUH hW.alike (wl_F hD hS C.2.2.2.2.2.2.2.1)⟩
  have hstk : st.map (cvV ad) = (As.map (cvV ad)).reverse ++ Value.ref (ad b) :: rest.map (cvV ad) := by rw [← hst]; simp [cvV]
  have hW : 2 * (F0 κ.m pc ls (st.map (cvV ad))).monitorRoom + ((rest.map (cvV ad)).map fun v => v.category).sum ≤ 8 := by
    rw [cats]; exact lv_room hrest
  rcases lk with h1 | ⟨host, h1⟩
  · exact x_afterA (va_runV ⟨C.1, C.2.1, C.2.2.1, C.2.2.2.1, hU⟩ (hM ad H.size) ⟨callB_of n hU hG rfl rfl rfl (hU _ hini) (hU _ h1) ⟨hy1, hy2, hy3⟩ hR, hU _ hinst, hU _ hsel⟩ ⟨Pr.blind, hrecv, hPre⟩ rfl (by rw [List.length_map]; exact hn) hl.1 hstk hW hd hc) hl hP hD hS C.2.2.2.2.2.2.2.1 hlo hok hNb k
  · exact x_afterA (va_runVN ⟨C.1, C.2.1, C.2.2.1, C.2.2.2.1, hU⟩ (hM ad H.size) ⟨va_cnB n hU hG rfl rfl rfl (va_Nw.of rfl (hU _ h1)) (hU _ hini) ⟨hy1, hy2, hy3⟩ hR, hU _ hinst, hU _ hsel⟩ ⟨Pr.blind, hrecv, hPre⟩ rfl (by rw [List.length_map]; exact hn) hl.1 hstk hW hd hc) hl hP hD hS C.2.2.2.2.2.2.2.1 hlo hok hNb k
def MI (y : MethodName) (cc : ByteArray) (nL : Nat) (n : Nat) : Prop := MW y cc nL none n ∧ Cond.instanceMethod y ∈ TB ∧ y.name = "<init>"
theorem x_callIA (C : Cx κ nL lev cc own mnm) (Z : Zx κ (N, ad, c, s)) {y : MethodName} {cc' : ByteArray} {nL' : Nat} {lev' mc ms n idx b : Nat} {As rest st : List Value} (mv : MI y cc' nL' n) (lk : LK own idx y) (hM : CtA κ.l κ.D κ.cy y cc' nL' none lev' mc ms (.ref b :: As) N σ Post) (hlev : lev' < lev) (hn : As.length = n) (hst : As.reverse ++ .ref b :: rest = st) (hrest : (rest.map fun v => v.category).sum ≤ 8) (hlo : okO N lo) (hok : okL N rest) (hNb : ∀ v N' σ', Post v N' σ' → N' ≤ 1000000)
    (hc : c + mc ≤ κ.R.cells ∧ s + ms ≤ κ.R.slots) (hd : decode cc pc = .ok (.invokespecial idx, 3)) (k : ∀ (v : Option Value) (N' : Nat) (ad' : Nat → Nat) (σ' : Hp), Post v N' σ' → N ≤ N' → (∀ i, i < N ∨ N' ≤ i → ad' i = ad i) → X κ nL (N', ad', c + mc, s + ms) (pc + 3) lo (v.toList ++ rest) σ') : X κ nL (N, ad, c, s) pc lo st σ := by
  intro H locs ls hl hP hD hS
  have hU : ∀ w ∈ TB, w.before κ.args κ.s = true := fun w h => C.2.2.2.2.1 w h _
  obtain ⟨⟨hcode, hini, ⟨hy1, hy2, hy3⟩, hnl⟩, hinst, hnm⟩ := mv
  have hG : GoodIn TB [Cond.code y cc' nL' none] := fun w hw => by
    rw [List.mem_singleton.mp hw]; exact ⟨hcode, good_of_word (by first | rfl | exact (List.mem_filter.mp hcode).2)⟩
  have hR : (rmA lev' mc ms).frames + 1 ≤ κ.R.frames ∧ 8 + (nL' + 11) + (rmA lev' mc ms).locals ≤ κ.R.locals := by
    obtain ⟨h1, h2⟩ := C.2.2.2.2.2.2.2.2.1
    constructor
    · show lev' + 1 ≤ _; omega
    · show 8 + (nL' + 11) + 40 * lev' ≤ _; omega
  have hPre : ∀ U : State, U.heap = H → κ.s.WarmedH U.vm → Pr κ.l κ.D κ.cy (.ref b :: As) N ad σ H.size (Value.ref (ad b) :: As.map (cvV ad)).toArray U := fun U hUH hW => ⟨rfl, by rw [hUH], C.2.2.2.2.1.warm hW, va_K.moved hW.alike C.2.2.2.2.2.1, by rw [hUH]; exact hP, hD.weaken (fun _ _ _ _ => trivial), Z.2.1, Z.2.2.call hS hUH hW.alike (wl_F hD hS C.2.2.2.2.2.2.2.1)⟩
  have hstk : st.map (cvV ad) = (As.map (cvV ad)).reverse ++ Value.ref (ad b) :: rest.map (cvV ad) := by rw [← hst]; simp [cvV]
  have hW : 2 * (F0 κ.m pc ls (st.map (cvV ad))).monitorRoom + ((rest.map (cvV ad)).map fun v => v.category).sum ≤ 8 := by
    rw [cats]; exact lv_room hrest
  rcases lk with h1 | ⟨host, h1⟩
  · exact x_afterA (va_runI ⟨C.1, C.2.1, C.2.2.1, C.2.2.2.1, hU⟩ (hM ad H.size) ⟨callB_of n hU hG rfl rfl rfl (hU _ hini) (hU _ h1) ⟨hy1, hy2, hy3⟩ hR, hnm, hU _ hinst⟩ ⟨Pr.blind, hPre⟩ rfl (by rw [List.length_map]; exact hn) hl.1 hstk hW hd hc) hl hP hD hS C.2.2.2.2.2.2.2.1 hlo hok hNb k
  · exact x_afterA (va_runIN ⟨C.1, C.2.1, C.2.2.1, C.2.2.2.1, hU⟩ (hM ad H.size) ⟨va_cnB n hU hG rfl rfl rfl (va_Nw.of rfl (hU _ h1)) (hU _ hini) ⟨hy1, hy2, hy3⟩ hR, hnm, hU _ hinst⟩ ⟨Pr.blind, hPre⟩ rfl (by rw [List.length_map]; exact hn) hl.1 hstk hW hd hc) hl hP hD hS C.2.2.2.2.2.2.2.1 hlo hok hNb k
end CallsA
/-! the same rows with what stays of the room and of the elder cells -/
def refsL : List Value → List Nat
  | [] => []
  | .ref i :: vs => i :: refsL vs
  | _ :: vs => refsL vs
def refsO : List (Option Value) → List Nat
  | [] => []
  | some (.ref i) :: vs => i :: refsO vs
  | _ :: vs => refsO vs
theorem okL_of {N : Nat} : ∀ {st : List Value}, (∀ x ∈ refsL st, x < N ∨ 1000000 ≤ x) → okL N st := by
  intro st
  induction st with
  | nil => intro _; trivial
  | cons v vs ih =>
    intro h
    cases v <;> first | exact ⟨trivial, ih h⟩ | exact ⟨h _ List.mem_cons_self, ih (fun x hx => h x (List.mem_cons_of_mem _ hx))⟩
theorem okO_of {N : Nat} : ∀ {lo : List (Option Value)}, (∀ x ∈ refsO lo, x < N ∨ 1000000 ≤ x) → okO N lo := by
  intro lo
  induction lo with
  | nil => intro _; trivial
  | cons o os ih =>
    intro h
    cases o with
    | none => exact ih h
    | some v => cases v <;> first | exact ⟨trivial, ih h⟩ | exact ⟨h _ List.mem_cons_self, ih (fun x hx => h x (List.mem_cons_of_mem _ hx))⟩
noncomputable def al (N : Nat) (σ : Hp) (l : List Nat) (c s mc ms : Nat) : Option Unit := @ite _ (HW N σ ∧ (∀ x ∈ l, x < N ∨ 1000000 ≤ x) ∧ N < 1000000 ∧ c ≤ mc ∧ s ≤ ms) (Classical.propDecidable _) (some ()) none
theorem al_spec {N : Nat} {σ : Hp} {l : List Nat} {c s mc ms : Nat} {u : Unit} (h : al N σ l c s mc ms = some u) : HW N σ ∧ (∀ x ∈ l, x < N ∨ 1000000 ≤ x) ∧ N < 1000000 ∧ c ≤ mc ∧ s ≤ ms := by
  unfold al at h
  split at h
  case isTrue hc => exact hc
  case isFalse => cases h
theorem al_of {N : Nat} {σ : Hp} {l : List Nat} {c s mc ms : Nat} (h : HW N σ) (h1 : ∀ x ∈ l, x < N ∨ 1000000 ≤ x) (h2 : N < 1000000) (h3 : c ≤ mc) (h4 : s ≤ ms) : al N σ l c s mc ms = some () := by
  unfold al
  rw [if_pos ⟨h, h1, h2, h3, h4⟩]
def mkc (σ : Hp) (N : Nat) (c : va_E) : Option Hp := some (va_up σ N c)
def nb (N : Nat) : Option Unit := if N ≤ 1000000 then some () else none
theorem nb_spec {N : Nat} {u : Unit} (h : nb N = some u) : N ≤ 1000000 := by
  unfold nb at h
  split at h
  case isTrue hc => exact hc
  case isFalse => cases h
section MakeG
variable {κ : Kx} {nL lev : Nat} {cc : ByteArray} {own mnm : String} {N : Nat} {ad : Nat → Nat} {c s : Nat} {pc : Nat} {lo : List (Option Value)} {st : List Value} {σ : Hp} {N0 mc ms : Nat} {ad0 : Nat → Nat} {l : List Nat} {u : Unit}
theorem up_ag (ad : Nat → Nat) (N q : Nat) : ∀ i, i < N ∨ N + 1 ≤ i → va_up ad N q i = ad i := fun i hi => by rw [va_up, if_neg (by omega)]
theorem Zx.on {c' s' N' : Nat} {ad' : Nat → Nat} (Z : Zx κ (N, ad, c, s)) (h1 : c' ≤ κ.R.cells) (h2 : s' ≤ κ.R.slots) (hN : N' ≤ 1000000) (had : ∀ i, i < N ∨ N' ≤ i → ad' i = ad i) : Zx κ (N', ad', c', s') := ⟨⟨h1, h2⟩, Z.2.1.on hN had, Z.2.2⟩
theorem g_new (C : Cx κ nL lev cc own mnm) (Z : Zx κ (N, ad, c, s)) (G : Ag N0 ad0 (N, ad, c, s)) (hRc : κ.R.cells = mc) (hRs : κ.R.slots = ms) {idx ci n : Nat} {fs : List Value} (nw : NW own idx ci n fs) (ha : al N σ l (c + 1) (s + n) mc ms = some u) (hl : refsO lo ++ refsL st = l) {S : Hp} (hm : mkc σ N (.inr (ci, fs)) = some S) (hd : decode cc pc = .ok (.new idx, 3)) (k : ∀ ad', Zx κ (N + 1, ad', c + 1, s + n) → Ag N0 ad0 (N + 1, ad', c + 1, s + n) → X κ nL (N + 1, ad', c + 1, s + n) (pc + 3) lo (.ref N :: st) S) : X κ nL (N, ad, c, s) pc lo st σ := by
  obtain ⟨hW, h1, h2, h3, h4⟩ := al_spec ha
  subst hl
  obtain rfl := Option.some.inj hm
  exact x_new C nw h2 hW ⟨by omega, by omega⟩ (okO_of (fun x hx => h1 x (List.mem_append_left _ hx))) (okL_of (fun x hx => h1 x (List.mem_append_right _ hx))) hd (fun q => k _ (Z.on (by omega) (by omega) (by omega) (up_ag ad N q)) (G.new q))
theorem g_newI (C : Cx κ nL lev cc own mnm) (Z : Zx κ (N, ad, c, s)) (G : Ag N0 ad0 (N, ad, c, s)) (hRc : κ.R.cells = mc) (hRs : κ.R.slots = ms) (n : Nat) {x : Int32} (hw : Cond.arrayClass .int ∈ TB) (hn : ¬ x < 0) (hN : x.toNatClampNeg = n) (hb : n ≤ 9000) (ha : al N σ l (c + 1) (s + n) mc ms = some u) (hl : refsO lo ++ refsL st = l) {S : Hp} (hm : mkc σ N (.inl (0, n, .inl (fun _ => 0))) = some S) (hd : decode cc pc = .ok (.newarray .int, 2)) (k : ∀ ad', Zx κ (N + 1, ad', c + 1, s + n) → Ag N0 ad0 (N + 1, ad', c + 1, s + n) → X κ nL (N + 1, ad', c + 1, s + n) (pc + 2) lo (.ref N :: st) S) : X κ nL (N, ad, c, s) pc lo (.int x :: st) σ := by
  obtain ⟨hW, h1, h2, h3, h4⟩ := al_spec ha
  subst hl
  obtain rfl := Option.some.inj hm
  exact x_newI C n hw hn hN (by omega) h2 hW ⟨by omega, by omega⟩ (okO_of (fun x hx => h1 x (List.mem_append_left _ hx))) (okL_of (fun x hx => h1 x (List.mem_append_right _ hx))) hd (fun q => k _ (Z.on (by omega) (by omega) (by omega) (up_ag ad N q)) (G.new q))
theorem g_newJ (C : Cx κ nL lev cc own mnm) (Z : Zx κ (N, ad, c, s)) (G : Ag N0 ad0 (N, ad, c, s)) (hRc : κ.R.cells = mc) (hRs : κ.R.slots = ms) (n : Nat) {x : Int32} (hw : Cond.arrayClass .long ∈ TB) (hn : ¬ x < 0) (hN : x.toNatClampNeg = n) (hb : n ≤ 9000) (ha : al N σ l (c + 1) (s + n) mc ms = some u) (hl : refsO lo ++ refsL st = l) {S : Hp} (hm : mkc σ N (.inl (1, n, .inr (.inl (fun _ => 0)))) = some S) (hd : decode cc pc = .ok (.newarray .long, 2)) (k : ∀ ad', Zx κ (N + 1, ad', c + 1, s + n) → Ag N0 ad0 (N + 1, ad', c + 1, s + n) → X κ nL (N + 1, ad', c + 1, s + n) (pc + 2) lo (.ref N :: st) S) : X κ nL (N, ad, c, s) pc lo (.int x :: st) σ := by
  obtain ⟨hW, h1, h2, h3, h4⟩ := al_spec ha
  subst hl
  obtain rfl := Option.some.inj hm
  exact x_newJ C n hw hn hN (by omega) h2 hW ⟨by omega, by omega⟩ (okO_of (fun x hx => h1 x (List.mem_append_left _ hx))) (okL_of (fun x hx => h1 x (List.mem_append_right _ hx))) hd (fun q => k _ (Z.on (by omega) (by omega) (by omega) (up_ag ad N q)) (G.new q))
theorem g_newB (C : Cx κ nL lev cc own mnm) (Z : Zx κ (N, ad, c, s)) (G : Ag N0 ad0 (N, ad, c, s)) (hRc : κ.R.cells = mc) (hRs : κ.R.slots = ms) (n : Nat) {x : Int32} (hw : Cond.arrayClass .byte ∈ TB) (hn : ¬ x < 0) (hN : x.toNatClampNeg = n) (hb : n ≤ 9000) (ha : al N σ l (c + 1) (s + n) mc ms = some u) (hl : refsO lo ++ refsL st = l) {S : Hp} (hm : mkc σ N (.inl (2, n, .inl (fun _ => 0))) = some S) (hd : decode cc pc = .ok (.newarray .byte, 2)) (k : ∀ ad', Zx κ (N + 1, ad', c + 1, s + n) → Ag N0 ad0 (N + 1, ad', c + 1, s + n) → X κ nL (N + 1, ad', c + 1, s + n) (pc + 2) lo (.ref N :: st) S) : X κ nL (N, ad, c, s) pc lo (.int x :: st) σ := by
  obtain ⟨hW, h1, h2, h3, h4⟩ := al_spec ha
  subst hl
  obtain rfl := Option.some.inj hm
  exact x_newB C n hw hn hN (by omega) h2 hW ⟨by omega, by omega⟩ (okO_of (fun x hx => h1 x (List.mem_append_left _ hx))) (okL_of (fun x hx => h1 x (List.mem_append_right _ hx))) hd (fun q => k _ (Z.on (by omega) (by omega) (by omega) (up_ag ad N q)) (G.new q))
theorem g_newZ (C : Cx κ nL lev cc own mnm) (Z : Zx κ (N, ad, c, s)) (G : Ag N0 ad0 (N, ad, c, s)) (hRc : κ.R.cells = mc) (hRs : κ.R.slots = ms) (n : Nat) {x : Int32} (hw : Cond.arrayClass .boolean ∈ TB) (hn : ¬ x < 0) (hN : x.toNatClampNeg = n) (hb : n ≤ 9000) (ha : al N σ l (c + 1) (s + n) mc ms = some u) (hl : refsO lo ++ refsL st = l) {S : Hp} (hm : mkc σ N (.inl (3, n, .inl (fun _ => 0))) = some S) (hd : decode cc pc = .ok (.newarray .boolean, 2)) (k : ∀ ad', Zx κ (N + 1, ad', c + 1, s + n) → Ag N0 ad0 (N + 1, ad', c + 1, s + n) → X κ nL (N + 1, ad', c + 1, s + n) (pc + 2) lo (.ref N :: st) S) : X κ nL (N, ad, c, s) pc lo (.int x :: st) σ := by
  obtain ⟨hW, h1, h2, h3, h4⟩ := al_spec ha
  subst hl
  obtain rfl := Option.some.inj hm
  exact x_newZ C n hw hn hN (by omega) h2 hW ⟨by omega, by omega⟩ (okO_of (fun x hx => h1 x (List.mem_append_left _ hx))) (okL_of (fun x hx => h1 x (List.mem_append_right _ hx))) hd (fun q => k _ (Z.on (by omega) (by omega) (by omega) (up_ag ad N q)) (G.new q))
theorem g_newQ (C : Cx κ nL lev cc own mnm) (Z : Zx κ (N, ad, c, s)) (G : Ag N0 ad0 (N, ad, c, s)) (hRc : κ.R.cells = mc) (hRs : κ.R.slots = ms) (n tag : Nat) {idx : Nat} {x : Int32} {cn : String} (htag : (tyL κ.cy)[tag]? = some (κ.cy tag, .object cn)) (h1' : Cond.classLink own idx cn ∈ TB) (h2' : Cond.arrayOver (.object cn) ∈ TB) (hn : ¬ x < 0) (hN : x.toNatClampNeg = n) (hb : n ≤ 9000) (ha : al N σ l (c + 1) (s + n) mc ms = some u) (hl : refsO lo ++ refsL st = l) {S : Hp} (hm : mkc σ N (.inl (tag, n, .inr (.inr (.inr (.inr (fun _ => none)))))) = some S) (hd : decode cc pc = .ok (.anewarray idx, 3)) (k : ∀ ad', Zx κ (N + 1, ad', c + 1, s + n) → Ag N0 ad0 (N + 1, ad', c + 1, s + n) → X κ nL (N + 1, ad', c + 1, s + n) (pc + 3) lo (.ref N :: st) S) : X κ nL (N, ad, c, s) pc lo (.int x :: st) σ := by
  obtain ⟨hW, h1, h2, h3, h4⟩ := al_spec ha
  subst hl
  obtain rfl := Option.some.inj hm
  exact x_newQ C htag h1' h2' hn hN (by omega) h2 hW ⟨by omega, by omega⟩ (okO_of (fun x hx => h1 x (List.mem_append_left _ hx))) (okL_of (fun x hx => h1 x (List.mem_append_right _ hx))) hd (fun q => k _ (Z.on (by omega) (by omega) (by omega) (up_ag ad N q)) (G.new q))
theorem g_callVr (C : Cx κ nL lev cc own mnm) (Z : Zx κ (N, ad, c, s)) (G : Ag N0 ad0 (N, ad, c, s)) (hRc : κ.R.cells = mc) (hRs : κ.R.slots = ms) {y : MethodName} {cc' : ByteArray} {nL' : Nat} {ret : Option FieldType} {lev' mc' ms' n idx ci b N' : Nat} {As rest : List Value} {V : Value} {S : Hp} {u' : Unit} (mv : MV ci y cc' nL' ret n) (lk : LK own idx y) (hb : ∃ fs, b < N ∧ σ b = .inr (ci, fs)) (hM : CtA κ.l κ.D κ.cy y cc' nL' ret lev' mc' ms' (.ref b :: As) N σ (fun v n' s' => v = some V ∧ n' = N' ∧ s' = S)) (hlev : lev' < lev) (hn : As.length = n) (hst : As.reverse ++ .ref b :: rest = st) (hrest : (rest.map fun v => v.category).sum ≤ 8) (ha : al N σ l (c + mc') (s + ms') mc ms = some u) (hl : refsO lo ++ refsL rest = l) (hN' : nb N' = some u')
    (hd : decode cc pc = .ok (.invokevirtual idx, 3)) (k : ∀ ad', Zx κ (N', ad', c + mc', s + ms') → Ag N0 ad0 (N', ad', c + mc', s + ms') → X κ nL (N', ad', c + mc', s + ms') (pc + 3) lo (V :: rest) S) : X κ nL (N, ad, c, s) pc lo st σ := by
  obtain ⟨hW, h1, h2, h3, h4⟩ := al_spec ha
  subst hl
  refine x_callVA C Z mv lk hb hM hlev hn hst hrest (okO_of (fun x hx => h1 x (List.mem_append_left _ hx))) (okL_of (fun x hx => h1 x (List.mem_append_right _ hx))) (fun v n' σ' hp => by rw [hp.2.1]; exact nb_spec hN') ⟨by omega, by omega⟩ hd (fun v n' ad' σ' hp hle had => ?_)
  obtain ⟨rfl, rfl, rfl⟩ := hp
  exact k ad' (Z.on (by omega) (by omega) (nb_spec hN') had) (G.on hle had)
theorem g_callI (C : Cx κ nL lev cc own mnm) (Z : Zx κ (N, ad, c, s)) (G : Ag N0 ad0 (N, ad, c, s)) (hRc : κ.R.cells = mc) (hRs : κ.R.slots = ms) {y : MethodName} {cc' : ByteArray} {nL' : Nat} {lev' mc' ms' n idx b N' : Nat} {As rest : List Value} {S : Hp} {u' : Unit} (mv : MI y cc' nL' n) (lk : LK own idx y) (hM : CtA κ.l κ.D κ.cy y cc' nL' none lev' mc' ms' (.ref b :: As) N σ (fun v n' s' => v = none ∧ n' = N' ∧ s' = S)) (hlev : lev' < lev) (hn : As.length = n) (hst : As.reverse ++ .ref b :: rest = st) (hrest : (rest.map fun v => v.category).sum ≤ 8) (ha : al N σ l (c + mc') (s + ms') mc ms = some u) (hl : refsO lo ++ refsL rest = l) (hN' : nb N' = some u')
    (hd : decode cc pc = .ok (.invokespecial idx, 3)) (k : ∀ ad', Zx κ (N', ad', c + mc', s + ms') → Ag N0 ad0 (N', ad', c + mc', s + ms') → X κ nL (N', ad', c + mc', s + ms') (pc + 3) lo rest S) : X κ nL (N, ad, c, s) pc lo st σ := by
  obtain ⟨hW, h1, h2, h3, h4⟩ := al_spec ha
  subst hl
  refine x_callIA C Z mv lk hM hlev hn hst hrest (okO_of (fun x hx => h1 x (List.mem_append_left _ hx))) (okL_of (fun x hx => h1 x (List.mem_append_right _ hx))) (fun v n' σ' hp => by rw [hp.2.1]; exact nb_spec hN') ⟨by omega, by omega⟩ hd (fun v n' ad' σ' hp hle had => ?_)
  obtain ⟨rfl, rfl, rfl⟩ := hp
  exact k ad' (Z.on (by omega) (by omega) (nb_spec hN') had) (G.on hle had)
theorem g_wide {c' s' : Nat} (Z : Zx κ (N, ad, c, s)) (G : Ag N0 ad0 (N, ad, c, s)) (hRc : κ.R.cells = mc) (hRs : κ.R.slots = ms) (h1 : c ≤ c' ∧ s ≤ s') (h2 : c' ≤ mc ∧ s' ≤ ms) (k : Zx κ (N, ad, c', s') → Ag N0 ad0 (N, ad, c', s') → X κ nL (N, ad, c', s') pc lo st σ) : X κ nL (N, ad, c, s) pc lo st σ := by
  intro H locs ls hl hP hD hS
  exact W.widen h1.1 h1.2 (k ⟨⟨by show c' ≤ _; omega, by show s' ≤ _; omega⟩, Z.2.1, Z.2.2⟩ ⟨G.1, G.2⟩ H locs ls hl hP hD hS)
end MakeG
