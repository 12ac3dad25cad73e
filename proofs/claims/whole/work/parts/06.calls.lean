/-! contracts of methods that make no cells: of every place ad of the cells -/
def rmL (k : Nat) : Room := { frames := k, cells := 0, slots := 0, locals := 40 * k }
/-! the class's own constant rows: cells that nobody writes; by the numbers 1000000, 1000001, 1000002 -/
def stv (k j : Nat) : Int32 := match k with
  | 0 => [1, 3, 7, 11, 17, 49].getD j 0
  | 1 => [10, 11, 12, 11, 13, 14].getD j 0
  | _ => [20, 21, 24, 22, 23, 23].getD j 0
def snm : Nat → String
  | 0 => "IS"
  | 1 => "SIZE_BODY"
  | _ => "MARK_BODY"
def Sx (cy : Nat → Nat) (A : Nat → Prop) (U : State) : Prop := ∀ k, k < 3 → va_Z "PegDiscs" (snm k) "[I" (.ref (cy (10 + k))) A U U.heap ∧ va_T .int (cy (10 + k)) 6 (fun j => .int (stv k j)) A U U.heap
def Sd (cy ad : Nat → Nat) : Prop := ∀ k, k < 4 → ad (1000000 + k) = cy (10 + k)
theorem Sx.call {cy : Nat → Nat} {A A' : Nat → Prop} {s U : State} {H : Heap} {locs : List Loc} (h : Sx cy A s) (hS : va_S A s.heap H locs) (hU : U.heap = H) (hvm : s.vm.Alike U.vm) (hA : ∀ q, A' q → A q) : Sx cy A' U := by
  intro k hk
  obtain ⟨h1, h2⟩ := h k hk
  rw [hU]
  exact ⟨((h1.kept (fun a h1 h2 => hS.2.1 a h1 h2)).moved hvm).narrow hA, ((h2.kept (fun a h1 h2 => hS.2.1 a h1 h2)).moved hvm).narrow hA⟩
def Pr (l : Launch) (D : va_G) (cy : Nat → Nat) (As : List Value) (N : Nat) (ad : Nat → Nat) (σ : Hp) (sz : Nat) : Array Value → State → Prop :=
  va_Pc (As.map (cvV ad)) (fun U => U.heap.size = sz ∧ Uni U ∧ va_K D vwCl (tyL cy) U ∧ va_P D vwCl (wl cy N ad σ) U.heap ∧ va_D (fun _ => True) (wl cy N ad σ) ∧ Sd cy ad ∧ Sx cy (va_A (wl cy N ad σ) sz) U)
def Po (D : va_G) (cy : Nat → Nat) (N : Nat) (ad : Nat → Nat) (σ : Hp) (sz : Nat) (Post : Option Value → Hp → Prop) : Array Value → State → Outcome → State → Prop := fun _ s0 oc t =>
  (∃ (v : Option Value) (σ' : Hp), oc = .returned (v.map (cvV ad)) ∧ Post v σ' ∧ va_P D vwCl (wl cy N ad σ') t.heap) ∧ va_F (va_A (wl cy N ad σ) sz) s0 t
def Ct (l : Launch) (D : va_G) (cy : Nat → Nat) (y : MethodName) (cc : ByteArray) (nL : Nat) (ret : Option FieldType) (lev : Nat) (As : List Value) (N : Nat) (σ : Hp) (Post : Option Value → Hp → Prop) : Prop :=
  ∀ (ad : Nat → Nat) (sz : Nat), Met l y [Cond.code y cc nL ret] (rmL lev) (Pr l D cy As N ad σ sz) (Po D cy N ad σ sz Post) 0 0 (va_A (wl cy N ad σ) sz)
/-- the room that is taken is within the room -/
def Zx (κ : Kx) (ω : Om) : Prop := (ω.2.2.1 ≤ κ.R.cells ∧ ω.2.2.2 ≤ κ.R.slots) ∧ Sd κ.cy ω.2.1 ∧ Sx κ.cy κ.A κ.s
/-- the end of a body: what is owed there -/
def Rt (κ : Kx) (ω : Om) (ret : Option FieldType) (Post : Option Value → Hp → Prop) : Prop :=
  κ.meth.sig.returnType = ret ∧ ∀ (H : Heap) (locs : List Loc) (v : Option Value) (σ : Hp), va_P κ.D vwCl (wl κ.cy ω.1 ω.2.1 σ) H → va_S κ.A κ.s.heap H locs → Post v σ →
    ∃ (Qc : Array Value → State → Outcome → State → Prop) (free : Addr → Prop), κ.Q = MQ κ.below Qc κ.args κ.s ω.2.2.1 ω.2.2.2 free ∧ (∀ t : State, t.heap = H → κ.s.WarmedH t.vm → Qc κ.args κ.s (.returned (v.map (cvV ω.2.1))) t) ∧ ∀ q ∈ locs, free q.base
def loE : List Value → List (Option Value)
  | [] => []
  | v :: vs => if v.category = 2 then some v :: none :: loE vs else some v :: loE vs
theorem loE_mem (ad : Nat → Nat) : ∀ (vs : List Value) (b i : Nat) (v : Value), (loE vs)[i]? = some (some v) → (b + i, cvV ad v) ∈ lv_args b (vs.map (cvV ad)) := by
  intro vs
  induction vs with
  | nil => intro b i v h; simp [loE] at h
  | cons w ws ih =>
    intro b i v h
    simp only [List.map_cons, lv_args, cvV_cat]
    unfold loE at h
    split at h
    case isTrue hc =>
      rw [if_pos hc]
      match i, h with
      | 0, h => simp at h; rw [h]; exact List.mem_cons_self
      | 1, h => simp at h
      | k + 2, h =>
        have := ih (b + 2) k v (by simpa using h)
        exact List.mem_cons_of_mem _ (by rw [show b + (k + 2) = b + 2 + k by omega]; exact this)
    case isFalse hc =>
      rw [if_neg hc]
      match i, h with
      | 0, h => simp at h; rw [h]; exact List.mem_cons_self
      | k + 1, h =>
        have := ih (b + 1) k v (by simpa using h)
        exact List.mem_cons_of_mem _ (by rw [show b + (k + 1) = b + 1 + k by omega]; exact this)
theorem loE_len (vs : List Value) (ad : Nat → Nat) : (lg_sl (vs.map (cvV ad))).length = (loE vs).length := by
  induction vs with
  | nil => rfl
  | cons w ws ih =>
    simp only [lg_sl, List.map_cons, List.flatMap_cons, List.length_append, cvV_cat] at ih ⊢
    unfold loE
    split <;> simp [ih] <;> omega
theorem Ct.intro {l : Launch} {D : va_G} {cy : Nat → Nat} {y : MethodName} {cc : ByteArray} {nL : Nat} {ret : Option FieldType} {lev : Nat} {As : List Value} {N : Nat} {σ : Hp} {Post : Option Value → Hp → Prop}
    (lo : List (Option Value)) (hy : plainName y.cls = true) (hlo : loE As ++ List.replicate (nL - (loE As).length) none = lo) (hln : (loE As).length ≤ nL)
    (body : ∀ (κ : Kx) (ω : Om), κ.l = l → κ.D = D → κ.cy = cy → ω.1 = N → Cx κ nL lev cc y.cls y.name → Zx κ ω → Rt κ ω ret Post → X κ nL ω 0 lo [] σ) : Ct l D cy y cc nL ret lev As N σ Post := by
  intro ad sz
  refine Met.ofW (cc := cc) (maxL := nL) (ret := ret) hy rfl ?_
  intro p e s m args below meth c s₁ B hml hv
  obtain ⟨rfl, hsz, hU, hK, hP, hD0, hSd, hSx⟩ := hv
  subst hsz
  have hD := hD0.self (sz := s.heap.size)
  have hl := lv_entry (As.map (cvV ad)) (n := nL) (by rw [loE_len]; exact hln)
  rw [lg_entry_eq]
  have hlh : lh ((lg_sl (As.map (cvV ad)) ++ List.replicate (nL - (lg_sl (As.map (cvV ad))).length) Slot.unset).toArray) nL ad lo := by
    refine ⟨hl.1, hl.2.1, fun i v hi => ?_⟩
    rw [← hlo] at hi
    have h2 : (loE As)[i]? = some (some v) := by
      rcases Nat.lt_or_ge i (loE As).length with h | h
      · rwa [List.getElem?_append_left h] at hi
      · rw [List.getElem?_append_right h] at hi
        have := List.mem_of_getElem? hi
        rw [List.mem_replicate] at this
        cases this.2
    have := loE_mem ad As 0 i v h2
    rw [Nat.zero_add] at this
    exact hl.2.2 _ this
  refine body (p, l, e, (headSpec [Cond.code y cc nL ret] (rmL lev)).room, s, m, (As.map (cvV ad)).toArray, below, meth, c, va_A (wl cy N ad σ) s.heap.size, D, cy, MQ below (Po D cy N ad σ s.heap.size Post) (As.map (cvV ad)).toArray s 0 0 (va_A (wl cy N ad σ) s.heap.size)) (N, ad, 0, 0) rfl rfl rfl rfl ?_ ⟨⟨Nat.zero_le _, Nat.zero_le _⟩, hSd, hSx⟩ ?_ s.heap [] _ hlh hP hD va_S.rf
  · exact ⟨B.exec, B.bytes, hml, findClass_of_methodNamed B.named, hU, hK, B.notSynchronized, fun q h => Or.inr h, ⟨Nat.le_refl _, Nat.le_refl _⟩, (name_of_methodNamed B.named B.method).1⟩
  · refine ⟨B.returns, fun H locs v σ' hP' hS' hp => ⟨_, _, rfl, fun t ht hW => ⟨⟨v, σ', rfl, hp, by rw [ht]; exact hP'⟩, hS'.F ht⟩, hS'.2.2⟩⟩
section Ends
variable {κ : Kx} {nL lev : Nat} {cc : ByteArray} {own mnm : String} {ω : Om} {pc : Nat} {lo : List (Option Value)} {σ : Hp} {Post : Option Value → Hp → Prop}
theorem x_iret (C : Cx κ nL lev cc own mnm) (E : Rt κ ω (some .int) Post) {v : Int32} (hd : decode cc pc = .ok (.ireturn, 1)) (hp : Post (some (.int v)) σ) : X κ nL ω pc lo [.int v] σ := by
  intro H locs ls hl hP hD hS
  obtain ⟨Qc, free, hQ, h1, h2⟩ := E.2 H locs _ σ hP hS hp
  rw [hQ]
  exact W.iret C.1 C.2.1 E.1 h1 h2 hd C.2.2.2.2.2.2.1
theorem x_zret (C : Cx κ nL lev cc own mnm) (E : Rt κ ω (some .boolean) Post) {v : Int32} (hn : narrow .boolean (.int v) = .int v) (hd : decode cc pc = .ok (.ireturn, 1)) (hp : Post (some (.int v)) σ) : X κ nL ω pc lo [.int v] σ := by
  intro H locs ls hl hP hD hS
  obtain ⟨Qc, free, hQ, h1, h2⟩ := E.2 H locs _ σ hP hS hp
  rw [hQ]
  exact W.zret C.1 C.2.1 E.1 hn h1 h2 hd C.2.2.2.2.2.2.1
theorem x_lret (C : Cx κ nL lev cc own mnm) (E : Rt κ ω (some .long) Post) {v : Int64} (hd : decode cc pc = .ok (.lreturn, 1)) (hp : Post (some (.long v)) σ) : X κ nL ω pc lo [.long v] σ := by
  intro H locs ls hl hP hD hS
  obtain ⟨Qc, free, hQ, h1, h2⟩ := E.2 H locs _ σ hP hS hp
  rw [hQ]
  exact W.lret C.1 C.2.1 E.1 h1 h2 hd C.2.2.2.2.2.2.1
theorem x_vret (C : Cx κ nL lev cc own mnm) (E : Rt κ ω none Post) (hd : decode cc pc = .ok (.return_, 1)) (hp : Post none σ) : X κ nL ω pc lo [] σ := by
  intro H locs ls hl hP hD hS
  obtain ⟨Qc, free, hQ, h1, h2⟩ := E.2 H locs _ σ hP hS hp
  rw [hQ]
  exact W.vret C.1 C.2.1 E.1 h1 h2 hd C.2.2.2.2.2.2.1
theorem x_aretQ (C : Cx κ nL lev cc own mnm) {cn : String} (E : Rt κ ω (some (.object cn)) Post) {q : Option Nat} (hd : decode cc pc = .ok (.areturn, 1)) (hp : Post (some (va_rf q)) σ) : X κ nL ω pc lo [va_rf q] σ := by
  intro H locs ls hl hP hD hS
  obtain ⟨Qc, free, hQ, h1, h2⟩ := E.2 H locs _ σ hP hS hp
  rw [hQ]
  exact W.aret C.1 C.2.1 E.1 (Or.inl ⟨_, rfl⟩) (by cases q with | none => exact Or.inl rfl | some r => exact Or.inr ⟨_, rfl⟩) h1 h2 hd C.2.2.2.2.2.2.1
end Ends
/-! calls -/
theorem Pr.blind {l : Launch} {D : va_G} {cy : Nat → Nat} {As : List Value} {N : Nat} {ad : Nat → Nat} {σ : Hp} {sz : Nat} : FrameBlind (Pr l D cy As N ad σ sz) := by
  intro a U g mk h
  obtain ⟨h1, h2, h3, h4, h5, h6, h7, h8⟩ := h
  exact ⟨h1, h2, h3.warm (show U.WarmedH (U.calling g mk a).vm from State.WarmedH.refl U), va_K.moved (u := U) (U := U.calling g mk a) (Vm.Alike.refl U.vm) h4, h5, h6, h7, fun k hk => ⟨(h8 k hk).1.moved (u := U) (U := U.calling g mk a) (Vm.Alike.refl U.vm), (h8 k hk).2.moved (u := U) (U := U.calling g mk a) (Vm.Alike.refl U.vm)⟩⟩
/-- a method that is called: its words -/
def MW (y : MethodName) (cc : ByteArray) (nL : Nat) (ret : Option FieldType) (n : Nat) : Prop := Cond.code y cc nL ret ∈ TB ∧ Cond.initialized y.cls ∈ TB ∧ (y.cls ≠ "java/lang/invoke/MethodHandle" ∧ y.cls ≠ "java/lang/invoke/VarHandle" ∧ (parseMethodDescriptor y.desc).map (fun d => d.parameters.length) = some n) ∧ nL ≤ 20
def MV (ci : Nat) (y : MethodName) (cc : ByteArray) (nL : Nat) (ret : Option FieldType) (n : Nat) : Prop := MW y cc nL ret n ∧ Cond.instanceMethod y ∈ TB ∧ Cond.selects y.cls y y ∈ TB ∧ ∃ T k, vwCl[ci]? = some (y.cls, T, k)
def MS (y : MethodName) (cc : ByteArray) (nL : Nat) (ret : Option FieldType) (n : Nat) : Prop := MW y cc nL ret n ∧ Cond.static y ∈ TB
/-- the link of a place of the pool to a method -/
def LK (own : String) (idx : Nat) (y : MethodName) : Prop := Cond.methodLink own idx y ∈ TB ∨ ∃ host, Cond.methodLinkNest own idx y host ∈ TB
theorem wl_F {cy : Nat → Nat} {N : Nat} {ad : Nat → Nat} {σ : Hp} {A : Nat → Prop} {H0 H : Heap} {locs : List Loc} (hD : va_D A (wl cy N ad σ)) (hS : va_S A H0 H locs) (hA : ∀ q, H0.size ≤ q → A q) : ∀ q, va_A (wl cy N ad σ) H.size q → A q := by
  intro q h
  rcases h with ⟨i, e, h⟩ | h
  · exact hD.2 i _ h
  · exact hA q (Nat.le_trans hS.1 h)
/-- how a call's run goes on, the callee having made no cells -/
theorem x_after {κ : Kx} {nL : Nat} {ω : Om} {pc : Nat} {lo : List (Option Value)} {rest st : List Value} {σ : Hp} {Post : Option Value → Hp → Prop} {H : Heap} {locs : List Loc} {ls : Array Slot} {as : Array Value} {Qa : State → Outcome → State → Prop}
    (hr : va_Run κ.p κ.l κ.e κ.R κ.s κ.m κ.args κ.below κ.meth κ.c H locs ω.2.2.1 ω.2.2.2 0 0 (F0 κ.m pc ls (st.map (cvV ω.2.1))) (rest.map (cvV ω.2.1)) (Po κ.D κ.cy ω.1 ω.2.1 σ H.size Post as) (va_A (wl κ.cy ω.1 ω.2.1 σ) H.size))
    (hl : lh ls nL ω.2.1 lo) (hP : va_P κ.D vwCl (wl κ.cy ω.1 ω.2.1 σ) H) (hD : va_D κ.A (wl κ.cy ω.1 ω.2.1 σ)) (hS : va_S κ.A κ.s.heap H locs) (hA : ∀ q, κ.s.heap.size ≤ q → κ.A q)
    (k : ∀ (v : Option Value) (σ' : Hp), Post v σ' → X κ nL ω (pc + 3) lo (v.toList ++ rest) σ') :
    W κ.p κ.l κ.e κ.R κ.s κ.m κ.args κ.below κ.meth κ.c H locs ω.2.2.1 ω.2.2.2 κ.Q (F0 κ.m pc ls (st.map (cvV ω.2.1))) := by
  have hF : ∀ q, va_A (wl κ.cy ω.1 ω.2.1 σ) H.size q → κ.A q := by
    intro q h
    rcases h with ⟨i, e, h⟩ | h
    · exact hD.2 i _ h
    · exact hA q (Nat.le_trans hS.1 h)
  intro T hT X0
  obtain ⟨v, st₀, t, T', L, h0, X', hL, e1, e2, ⟨⟨v', σ', hv, hp, hP'⟩, hz, hk⟩, stp⟩ := hr T hT X0
  cases hv
  rw [h0] at hz hk
  have hS' : va_S κ.A κ.s.heap T'.heap (locs ++ L) := ⟨Nat.le_trans hS.1 (by rw [e1]; exact hz), fun q h1 h2 => by rw [e1, hk q (Nat.lt_of_lt_of_le h1 hS.1) (fun z => h2 (hF q z))]; exact hS.2.1 q h1 h2, fun q hq => by
    rcases List.mem_append.mp hq with h | h
    · exact hS.2.2 q h
    · exact hF _ (hL q h)⟩
  obtain ⟨t2, a1, b1⟩ := k v' σ' hp T'.heap (locs ++ L) ls hl (by rw [e1]; exact hP') (wl_D hD) hS' T' rfl X'
  refine ⟨t2, stp t2 ?_, b1⟩
  have e3 : (v'.toList ++ rest).map (cvV ω.2.1) = (v'.map (cvV ω.2.1)).toList ++ rest.map (cvV ω.2.1) := by cases v' <;> simp
  rw [e3] at a1
  exact a1
theorem cats (ad : Nat → Nat) (st : List Value) : ((st.map (cvV ad)).map fun v => v.category).sum = (st.map fun v => v.category).sum := by
  rw [List.map_map]; congr 1; apply List.map_congr_left; intro v _; exact cvV_cat ad v
section Calls
variable {κ : Kx} {nL lev : Nat} {cc : ByteArray} {own mnm : String} {ω : Om} {pc : Nat} {lo : List (Option Value)} {σ : Hp} {Post : Option Value → Hp → Prop}
theorem x_callV (C : Cx κ nL lev cc own mnm) {y : MethodName} {cc' : ByteArray} {nL' : Nat} {ret : Option FieldType} {lev' n idx ci b : Nat} {As rest st : List Value} (mv : MV ci y cc' nL' ret n) (lk : LK own idx y) (hM : Ct κ.l κ.D κ.cy y cc' nL' ret lev' (.ref b :: As) ω.1 σ Post) (hlev : lev' < lev) (hn : As.length = n) (hst : As.reverse ++ .ref b :: rest = st) (hrest : (rest.map fun v => v.category).sum ≤ 8)
    (hb : ∃ fs, b < ω.1 ∧ σ b = .inr (ci, fs)) (hd : decode cc pc = .ok (.invokevirtual idx, 3)) (hcs : Zx κ ω) (k : ∀ (v : Option Value) (σ' : Hp), Post v σ' → X κ nL ω (pc + 3) lo (v.toList ++ rest) σ') : X κ nL ω pc lo st σ := by
  intro H locs ls hl hP hD hS
  have hU : ∀ w ∈ TB, w.before κ.args κ.s = true := fun w h => C.2.2.2.2.1 w h _
  obtain ⟨⟨hcode, hini, ⟨hy1, hy2, hy3⟩, hnl⟩, hinst, hsel, T, kc, hcl⟩ := mv
  have hG : GoodIn TB [Cond.code y cc' nL' ret] := fun w hw => by
    rw [List.mem_singleton.mp hw]; exact ⟨hcode, good_of_word (by first | rfl | exact (List.mem_filter.mp hcode).2)⟩
  have hR : (rmL lev').frames + 1 ≤ κ.R.frames ∧ 8 + (nL' + 11) + (rmL lev').locals ≤ κ.R.locals := by
    obtain ⟨h1, h2⟩ := C.2.2.2.2.2.2.2.2.1
    constructor
    · show lev' + 1 ≤ _; omega
    · show 8 + (nL' + 11) + 40 * lev' ≤ _; omega
  obtain ⟨fs, hbN, hbe⟩ := hb
  have hrecv := va_recv C.2.2.2.2.2.1 hP hcl (wl_atE hbN hbe)
  have hPre : ∀ U : State, U.heap = H → κ.s.WarmedH U.vm → Pr κ.l κ.D κ.cy (.ref b :: As) ω.1 ω.2.1 σ H.size (Value.ref (ω.2.1 b) :: As.map (cvV ω.2.1)).toArray U := fun U hUH hW => ⟨rfl, by rw [hUH], C.2.2.2.2.1.warm hW, va_K.moved hW.alike C.2.2.2.2.2.1, by rw [hUH]; exact hP, hD.weaken (fun _ _ _ _ => trivial), hcs.2.1, hcs.2.2.call hS hUH hW.alike (wl_F hD hS C.2.2.2.2.2.2.2.1)⟩
  have hstk : st.map (cvV ω.2.1) = (As.map (cvV ω.2.1)).reverse ++ Value.ref (ω.2.1 b) :: rest.map (cvV ω.2.1) := by rw [← hst]; simp [cvV]
  have hW : 2 * (F0 κ.m pc ls (st.map (cvV ω.2.1))).monitorRoom + ((rest.map (cvV ω.2.1)).map fun v => v.category).sum ≤ 8 := by
    rw [cats]; exact lv_room hrest
  rcases lk with h1 | ⟨host, h1⟩
  · exact x_after (va_runV ⟨C.1, C.2.1, C.2.2.1, C.2.2.2.1, hU⟩ (hM ω.2.1 H.size) ⟨callB_of n hU hG rfl rfl rfl (hU _ hini) (hU _ h1) ⟨hy1, hy2, hy3⟩ hR, hU _ hinst, hU _ hsel⟩ ⟨Pr.blind, hrecv, hPre⟩ rfl (by rw [List.length_map]; exact hn) hl.1 hstk hW hd (by simpa using hcs.1)) (Qa := fun _ _ _ => True) hl hP hD hS C.2.2.2.2.2.2.2.1 k
  · exact x_after (va_runVN ⟨C.1, C.2.1, C.2.2.1, C.2.2.2.1, hU⟩ (hM ω.2.1 H.size) ⟨va_cnB n hU hG rfl rfl rfl (va_Nw.of rfl (hU _ h1)) (hU _ hini) ⟨hy1, hy2, hy3⟩ hR, hU _ hinst, hU _ hsel⟩ ⟨Pr.blind, hrecv, hPre⟩ rfl (by rw [List.length_map]; exact hn) hl.1 hstk hW hd (by simpa using hcs.1)) (Qa := fun _ _ _ => True) hl hP hD hS C.2.2.2.2.2.2.2.1 k
theorem x_callS (C : Cx κ nL lev cc own mnm) {y : MethodName} {cc' : ByteArray} {nL' : Nat} {ret : Option FieldType} {lev' n idx : Nat} {As rest st : List Value} (mv : MS y cc' nL' ret n) (lk : LK own idx y) (hM : Ct κ.l κ.D κ.cy y cc' nL' ret lev' As ω.1 σ Post) (hlev : lev' < lev) (hn : As.length = n) (hst : As.reverse ++ rest = st) (hrest : (rest.map fun v => v.category).sum ≤ 8)
    (hd : decode cc pc = .ok (.invokestatic idx, 3)) (hcs : Zx κ ω) (k : ∀ (v : Option Value) (σ' : Hp), Post v σ' → X κ nL ω (pc + 3) lo (v.toList ++ rest) σ') : X κ nL ω pc lo st σ := by
  intro H locs ls hl hP hD hS
  have hU : ∀ w ∈ TB, w.before κ.args κ.s = true := fun w h => C.2.2.2.2.1 w h _
  obtain ⟨⟨hcode, hini, ⟨hy1, hy2, hy3⟩, hnl⟩, hstat⟩ := mv
  have hG : GoodIn TB [Cond.code y cc' nL' ret] := fun w hw => by
    rw [List.mem_singleton.mp hw]; exact ⟨hcode, good_of_word (by first | rfl | exact (List.mem_filter.mp hcode).2)⟩
  have hR : (rmL lev').frames + 1 ≤ κ.R.frames ∧ 8 + (nL' + 11) + (rmL lev').locals ≤ κ.R.locals := by
    obtain ⟨h1, h2⟩ := C.2.2.2.2.2.2.2.2.1
    constructor
    · show lev' + 1 ≤ _; omega
    · show 8 + (nL' + 11) + 40 * lev' ≤ _; omega
  have hPre : ∀ U : State, U.heap = H → κ.s.WarmedH U.vm → Pr κ.l κ.D κ.cy As ω.1 ω.2.1 σ H.size (As.map (cvV ω.2.1)).toArray U := fun U hUH hW => ⟨rfl, by rw [hUH], C.2.2.2.2.1.warm hW, va_K.moved hW.alike C.2.2.2.2.2.1, by rw [hUH]; exact hP, hD.weaken (fun _ _ _ _ => trivial), hcs.2.1, hcs.2.2.call hS hUH hW.alike (wl_F hD hS C.2.2.2.2.2.2.2.1)⟩
  have hstk : st.map (cvV ω.2.1) = (As.map (cvV ω.2.1)).reverse ++ rest.map (cvV ω.2.1) := by rw [← hst]; simp
  have hW : 2 * (F0 κ.m pc ls (st.map (cvV ω.2.1))).monitorRoom + ((rest.map (cvV ω.2.1)).map fun v => v.category).sum ≤ 8 := by
    rw [cats]; exact lv_room hrest
  rcases lk with h1 | ⟨host, h1⟩
  · exact x_after (va_runS ⟨C.1, C.2.1, C.2.2.1, C.2.2.2.1, hU⟩ (hM ω.2.1 H.size) ⟨callB_of n hU hG rfl rfl rfl (hU _ hini) (hU _ h1) ⟨hy1, hy2, hy3⟩ hR, hU _ hstat⟩ ⟨Pr.blind, hPre⟩ rfl (by rw [List.length_map]; exact hn) hl.1 hstk hW hd (by simpa using hcs.1)) (Qa := fun _ _ _ => True) hl hP hD hS C.2.2.2.2.2.2.2.1 k
  · exact x_after (va_runSN ⟨C.1, C.2.1, C.2.2.1, C.2.2.2.1, hU⟩ (hM ω.2.1 H.size) ⟨va_cnB n hU hG rfl rfl rfl (va_Nw.of rfl (hU _ h1)) (hU _ hini) ⟨hy1, hy2, hy3⟩ hR, hU _ hstat, trivial⟩ ⟨Pr.blind, hPre⟩ rfl (by rw [List.length_map]; exact hn) hl.1 hstk hW hd (by simpa using hcs.1)) (Qa := fun _ _ _ => True) hl hP hD hS C.2.2.2.2.2.2.2.1 k
theorem x_callVr (C : Cx κ nL lev cc own mnm) (Z : Zx κ ω) {y : MethodName} {cc' : ByteArray} {nL' : Nat} {ret : Option FieldType} {lev' n idx ci b : Nat} {As rest st : List Value} {V : Value} {S : Hp} (mv : MV ci y cc' nL' ret n) (lk : LK own idx y) (hb : ∃ fs, b < ω.1 ∧ σ b = .inr (ci, fs)) (hM : Ct κ.l κ.D κ.cy y cc' nL' ret lev' (.ref b :: As) ω.1 σ (fun v s' => v = some V ∧ s' = S)) (hlev : lev' < lev) (hn : As.length = n) (hst : As.reverse ++ .ref b :: rest = st) (hrest : (rest.map fun v => v.category).sum ≤ 8)
    (hd : decode cc pc = .ok (.invokevirtual idx, 3)) (k : X κ nL ω (pc + 3) lo (V :: rest) S) : X κ nL ω pc lo st σ :=
  x_callV C mv lk hM hlev hn hst hrest hb hd Z (fun v σ' hp => by obtain ⟨rfl, rfl⟩ := hp; exact k)
theorem x_callVn (C : Cx κ nL lev cc own mnm) (Z : Zx κ ω) {y : MethodName} {cc' : ByteArray} {nL' : Nat} {ret : Option FieldType} {lev' n idx ci b : Nat} {As rest st : List Value} {S : Hp} (mv : MV ci y cc' nL' ret n) (lk : LK own idx y) (hb : ∃ fs, b < ω.1 ∧ σ b = .inr (ci, fs)) (hM : Ct κ.l κ.D κ.cy y cc' nL' ret lev' (.ref b :: As) ω.1 σ (fun v s' => v = none ∧ s' = S)) (hlev : lev' < lev) (hn : As.length = n) (hst : As.reverse ++ .ref b :: rest = st) (hrest : (rest.map fun v => v.category).sum ≤ 8)
    (hd : decode cc pc = .ok (.invokevirtual idx, 3)) (k : X κ nL ω (pc + 3) lo rest S) : X κ nL ω pc lo st σ :=
  x_callV C mv lk hM hlev hn hst hrest hb hd Z (fun v σ' hp => by obtain ⟨rfl, rfl⟩ := hp; exact k)
theorem x_callSr (C : Cx κ nL lev cc own mnm) (Z : Zx κ ω) {y : MethodName} {cc' : ByteArray} {nL' : Nat} {ret : Option FieldType} {lev' n idx : Nat} {As rest st : List Value} {V : Value} {S : Hp} (mv : MS y cc' nL' ret n) (lk : LK own idx y) (hM : Ct κ.l κ.D κ.cy y cc' nL' ret lev' As ω.1 σ (fun v s' => v = some V ∧ s' = S)) (hlev : lev' < lev) (hn : As.length = n) (hst : As.reverse ++ rest = st) (hrest : (rest.map fun v => v.category).sum ≤ 8)
    (hd : decode cc pc = .ok (.invokestatic idx, 3)) (k : X κ nL ω (pc + 3) lo (V :: rest) S) : X κ nL ω pc lo st σ :=
  x_callS C mv lk hM hlev hn hst hrest hd Z (fun v σ' hp => by obtain ⟨rfl, rfl⟩ := hp; exact k)
theorem x_callSn (C : Cx κ nL lev cc own mnm) (Z : Zx κ ω) {y : MethodName} {cc' : ByteArray} {nL' : Nat} {ret : Option FieldType} {lev' n idx : Nat} {As rest st : List Value} {S : Hp} (mv : MS y cc' nL' ret n) (lk : LK own idx y) (hM : Ct κ.l κ.D κ.cy y cc' nL' ret lev' As ω.1 σ (fun v s' => v = none ∧ s' = S)) (hlev : lev' < lev) (hn : As.length = n) (hst : As.reverse ++ rest = st) (hrest : (rest.map fun v => v.category).sum ≤ 8)
    (hd : decode cc pc = .ok (.invokestatic idx, 3)) (k : X κ nL ω (pc + 3) lo rest S) : X κ nL ω pc lo st σ :=
  x_callS C mv lk hM hlev hn hst hrest hd Z (fun v σ' hp => by obtain ⟨rfl, rfl⟩ := hp; exact k)
end Calls
/-! words of the mirrors -/
def rv (N : Nat) (σ : Hp) (i ci : Nat) : Option Unit := if i < N then (match σ i with
  | .inr o => if o.1 = ci then some () else none
  | .inl _ => none) else none
theorem rv_spec {N : Nat} {σ : Hp} {i ci : Nat} {u : Unit} (h : rv N σ i ci = some u) : ∃ fs, i < N ∧ σ i = .inr (ci, fs) := by
  unfold rv at h
  split at h
  case isFalse => cases h
  case isTrue hi =>
    split at h
    case h_2 => cases h
    case h_1 o ho =>
      split at h
      case isFalse => cases h
      case isTrue hc => exact ⟨o.2, hi, by rw [ho, ← hc]⟩
theorem rv_h {N : Nat} {σ : Hp} {i ci : Nat} {β : Type} {g : Unit → Option β} {r : β} (h : (rv N σ i ci).bind g = some r) : ∃ fs, i < N ∧ σ i = .inr (ci, fs) := by
  obtain ⟨u, h1, _⟩ := ob h
  exact rv_spec h1
def nz (x : Int32) : Option Unit := if x = 0 then none else some ()
theorem nz_ne {x : Int32} {u : Unit} (h : nz x = some u) : ¬ x = 0 := fun e => by rw [nz, if_pos e] at h; cases h
def nzJ (x : Int64) : Option Unit := if x = 0 then none else some ()
theorem nzJ_ne {x : Int64} {u : Unit} (h : nzJ x = some u) : ¬ x = 0 := fun e => by rw [nzJ, if_pos e] at h; cases h
/-- a boolean that is answered is 0 or 1 -/
def zb (x : Int32) : Option Unit := if x = 0 ∨ x = 1 then some () else none
theorem zb_n {x : Int32} {u : Unit} (h : zb x = some u) : narrow .boolean (.int x) = .int x := by
  unfold zb at h
  split at h
  case isFalse => cases h
  case isTrue hc => rcases hc with rfl | rfl <;> decide +kernel
def cQ {β : Type} (q : Option Nat) (a : β) (f : Nat → β) : β := match q with
  | none => a
  | some r => f r
theorem cQ_n {β : Type} {a r : β} {f : Nat → β} (h : cQ none a f = r) : a = r := h
theorem cQ_s {β : Type} {a r : β} {f : Nat → β} {x : Nat} (h : cQ (some x) a f = r) : f x = r := h
def cS {α β γ : Type} (z : α ⊕ β) (f : α → γ) (g : β → γ) : γ := match z with
  | .inl a => f a
  | .inr b => g b
theorem cS_l {α β γ : Type} {f : α → γ} {g : β → γ} {u : α} {r : γ} (h : cS (.inl u) f g = r) : f u = r := h
theorem cS_r {α β γ : Type} {f : α → γ} {g : β → γ} {u : β} {r : γ} (h : cS (.inr u) f g = r) : g u = r := h
theorem esc {α β : Type} {t : β} {z : α ⊕ β} {R : β} {f : α → Option β} (h : some (Sum.inr t) = some z) (hO : cS z f (fun x => some x) = some R) : some t = some R := by
  obtain rfl := Option.some.inj h
  exact hO
theorem escM {α β : Type} {o : Option β} {z : α ⊕ β} {R : β} {f : α → Option β} (h : Option.map Sum.inr o = some z) (hO : cS z f (fun x => some x) = some R) : o = some R := by
  cases o with
  | none => cases h
  | some t => exact esc h hO
def fu : Nat := 20000
