/-! the words, of whatever arguments; warm states keep them -/
def okW : Cond → Bool
  | .fieldLinkNest _ _ _ _ _ _ => true
  | .methodLinkNest _ _ _ _ => true
  | .arrayOver (.object _) => true
  | w => goodWord w
def TB : List Cond := lw_tbl.filter okW
def Uni (U : State) : Prop := ∀ w ∈ TB, ∀ a : Array Value, w.before a U = true
theorem Uni.warm {s U : State} (hW : s.WarmedH U.vm) (h : Uni s) : Uni U := by
  intro w hw a
  have hk := (List.mem_filter.mp hw).2
  have hs := h w hw #[]
  cases w with
  | fieldLinkNest => exact va_Nw.use rfl (va_Nw.warmF hW hs)
  | methodLinkNest => exact va_Nw.use rfl (va_Nw.warmM hW hs)
  | arrayOver t =>
    cases t with
    | object C => exact va_AO.use (va_AO.moved hW.alike (va_AO.of hs))
    | _ => exact word_at hW (good_of_word hk) hs
  | _ => exact word_at hW (good_of_word hk) hs
theorem Uni.of {s : State} {a0 : Array Value} (h : ∀ w ∈ lw_tbl, w.before a0 s = true) : Uni s := by
  intro w hw a
  have hk := (List.mem_filter.mp hw).2
  have hs := h w (List.mem_filter.mp hw).1
  cases w with
  | fieldLinkNest => exact va_Nw.use rfl (va_Nw.of rfl hs)
  | methodLinkNest => exact va_Nw.use rfl (va_Nw.of rfl hs)
  | arrayOver t =>
    cases t with
    | object C => exact va_AO.use (va_AO.of hs)
    | _ => exact word_at (State.WarmedH.refl s) (good_of_word hk) hs
  | _ => exact word_at (State.WarmedH.refl s) (good_of_word hk) hs
/-! the heap by numbers: a cell's number, what it holds; references are numbers too; ad: where they lie -/
def cvV (ad : Nat → Nat) : Value → Value
  | .ref i => .ref (ad i)
  | v => v
def cvE (cy ad : Nat → Nat) : va_E → va_E
  | .inl (c, n, .inl f) => .inl (cy c, n, .inl f)
  | .inl (c, n, .inr (.inl f)) => .inl (cy c, n, .inr (.inl f))
  | .inl (c, n, .inr (.inr (.inl f))) => .inl (cy c, n, .inr (.inr (.inl f)))
  | .inl (c, n, .inr (.inr (.inr (.inl f)))) => .inl (cy c, n, .inr (.inr (.inr (.inl f))))
  | .inl (c, n, .inr (.inr (.inr (.inr f)))) => .inl (cy c, n, .inr (.inr (.inr (.inr (fun k => (f k).map ad)))))
  | .inr (ci, fs) => .inr (ci, fs.map (cvV ad))
abbrev Hp : Type := Nat → va_E
def wl (cy : Nat → Nat) (N : Nat) (ad : Nat → Nat) (σ : Hp) : va_W := (List.range N).map (fun i => (ad i, cvE cy ad (σ i)))
theorem wl_at {cy : Nat → Nat} {N : Nat} {ad : Nat → Nat} {σ : Hp} {i : Nat} (h : i < N) : (wl cy N ad σ)[i]? = some (ad i, cvE cy ad (σ i)) := by simp [wl, h]
theorem wl_atE {cy : Nat → Nat} {N : Nat} {ad : Nat → Nat} {σ : Hp} {i : Nat} {c : va_E} (h : i < N) (hc : σ i = c) : (wl cy N ad σ)[i]? = some (ad i, cvE cy ad c) := by rw [wl_at h, hc]
theorem wl_set {cy : Nat → Nat} {N : Nat} {ad : Nat → Nat} {σ : Hp} {i : Nat} (c : va_E) (h : i < N) : (wl cy N ad σ).set i (ad i, cvE cy ad c) = wl cy N ad (va_up σ i c) := by
  apply List.ext_getElem?
  intro j
  by_cases hj : j = i
  · subst hj
    simp [wl, h, va_up]
  · rw [List.getElem?_set_ne (fun q => hj q.symm)]
    by_cases hN : j < N
    · simp [wl, hN, va_up, hj]
    · simp [wl, hN]
theorem wl_D {cy : Nat → Nat} {N : Nat} {ad : Nat → Nat} {σ σ' : Hp} {A : Nat → Prop} (h : va_D A (wl cy N ad σ)) : va_D A (wl cy N ad σ') := by
  have key : ∀ (i : Nat) (p : Nat × va_E), (wl cy N ad σ')[i]? = some p → i < N ∧ p.1 = ad i := by
    intro i p hp
    by_cases hN : i < N
    · rw [wl_at hN] at hp; cases hp; exact ⟨hN, rfl⟩
    · simp [wl, hN] at hp
  refine ⟨fun i j p q hp hq e => ?_, fun k q hq => ?_⟩
  · obtain ⟨h1, e1⟩ := key i p hp
    obtain ⟨h2, e2⟩ := key j q hq
    exact h.1 i j _ _ (wl_at h1) (wl_at h2) (by rw [← e1, ← e2]; exact e)
  · obtain ⟨h1, e1⟩ := key k q hq
    rw [e1]; exact h.2 k _ (wl_at h1)
theorem wl_A {cy : Nat → Nat} {N : Nat} {ad : Nat → Nat} {σ σ' : Hp} {sz : Nat} : va_A (wl cy N ad σ) sz = va_A (wl cy N ad σ') sz := by
  funext q
  have key : ∀ σ : Hp, (∃ (k : Nat) (e : va_E), (wl cy N ad σ)[k]? = some (q, e)) ↔ ∃ k, k < N ∧ ad k = q := by
    intro σ
    constructor
    · rintro ⟨k, e, h⟩
      by_cases hN : k < N
      · rw [wl_at hN] at h; cases h; exact ⟨k, hN, rfl⟩
      · simp [wl, hN] at h
    · rintro ⟨k, hN, rfl⟩
      exact ⟨k, _, wl_at hN⟩
  show (_ ∨ _) = (_ ∨ _)
  rw [propext (key σ), propext (key σ')]
abbrev tyL (cy : Nat → Nat) : List (ClassId × FieldType) := [(cy 0, .int), (cy 1, .long), (cy 2, .byte), (cy 3, .boolean), (cy 4, .object "PegDiscs$Board"), (cy 5, .object "PegDiscs$Row")]
/-! the locals -/
def lh (ls : Array Slot) (nL : Nat) (ad : Nat → Nat) (lo : List (Option Value)) : Prop := ls.size = nL ∧ lv_wf ls ∧ ∀ (i : Nat) (v : Value), lo[i]? = some (some v) → ls[i]? = some (.val (cvV ad v))
def loA (ad : Nat → Nat) (lo : List (Option Value)) : List (Nat × Value) := (List.range lo.length).filterMap (fun j => match lo[j]? with
  | some (some v) => some (j, cvV ad v)
  | _ => none)
theorem loA_mem {ad : Nat → Nat} {lo : List (Option Value)} {j : Nat} {u : Value} : (j, u) ∈ loA ad lo ↔ ∃ v, lo[j]? = some (some v) ∧ u = cvV ad v := by
  constructor
  · intro h
    obtain ⟨k, hk, h2⟩ := List.mem_filterMap.mp h
    revert h2
    cases hq : lo[k]? with
    | none => intro h2; cases h2
    | some o =>
      cases o with
      | none => intro h2; cases h2
      | some v => intro h2; cases h2; exact ⟨v, hq, rfl⟩
  · rintro ⟨v, hv, rfl⟩
    refine List.mem_filterMap.mpr ⟨j, ?_, ?_⟩
    · exact List.mem_range.mpr (List.getElem?_eq_some_iff.mp hv).1
    · rw [hv]
theorem lh.has {ls : Array Slot} {nL : Nat} {ad : Nat → Nat} {lo : List (Option Value)} (h : lh ls nL ad lo) : lv_has ls nL (loA ad lo) := by
  refine ⟨h.1, h.2.1, fun q hq => ?_⟩
  obtain ⟨v, h1, h2⟩ := loA_mem.mp (show (q.1, q.2) ∈ loA ad lo from hq)
  rw [h2]; exact h.2.2 _ _ h1
def isW : Option Value → Bool
  | some (.long _) => true
  | some (.double _) => true
  | _ => false
def stOK (lo : List (Option Value)) : Nat → Bool
  | 0 => true
  | k + 1 => match lo[k]? with
    | some o => !isW o
    | none => true
theorem cvV_cat (ad : Nat → Nat) (v : Value) : (cvV ad v).category = v.category := by cases v <;> rfl
theorem isW_of {v : Value} (h : v.category = 2) : isW (some v) = true := by cases v <;> first | rfl | (simp [Value.category] at h)
theorem lh_st1 {ls : Array Slot} {nL : Nat} {ad : Nat → Nat} {lo : List (Option Value)} {i : Nat} {v : Value} (hok : stOK lo i = true) (h : lv_has ls nL ((i, cvV ad v) :: (loA ad lo).filter (fun q => !(q.1 == i) && !(q.1 + 1 == i && q.2.category == 2)))) : lh ls nL ad (lo.set i (some v)) := by
  refine ⟨h.1, h.2.1, fun j w hj => ?_⟩
  by_cases hji : j = i
  · subst hji
    have : w = v := by
      rw [List.getElem?_set_self' ] at hj
      cases hq : lo[j]? with
      | none => rw [hq] at hj; cases hj
      | some o => rw [hq] at hj; simpa using hj.symm
    subst this
    exact h.2.2 (j, cvV ad w) List.mem_cons_self
  · rw [List.getElem?_set_ne (fun q => hji q.symm)] at hj
    refine h.2.2 (j, cvV ad w) (List.mem_cons_of_mem _ (List.mem_filter.mpr ⟨loA_mem.mpr ⟨w, hj, rfl⟩, ?_⟩))
    simp only [Bool.and_eq_true, Bool.not_eq_true', beq_eq_false_iff_ne, ne_eq, hji, not_false_eq_true, true_and, Bool.and_eq_false_iff]
    by_cases hc : j + 1 = i
    · right
      subst hc
      simp only [stOK, hj, Bool.not_eq_true'] at hok
      rw [cvV_cat]
      cases hw : (w.category == 2) with
      | false => simpa using hw
      | true => rw [isW_of (by simpa using hw)] at hok; cases hok
    · left; simpa using hc
theorem lh_st2 {ls : Array Slot} {nL : Nat} {ad : Nat → Nat} {lo : List (Option Value)} {i : Nat} {v : Value} (hok : stOK lo i = true) (h : lv_has ls nL ((i, cvV ad v) :: (loA ad lo).filter (fun q => !(q.1 == i) && (!(q.1 == i + 1) && !(q.1 + 1 == i && q.2.category == 2))))) : lh ls nL ad ((lo.set i (some v)).set (i + 1) none) := by
  refine ⟨h.1, h.2.1, fun j w hj => ?_⟩
  by_cases hji1 : j = i + 1
  · subst hji1
    rw [List.getElem?_set_self'] at hj
    cases hq : (lo.set i (some v))[i + 1]? with
    | none => rw [hq] at hj; cases hj
    | some o => rw [hq] at hj; simp at hj
  rw [List.getElem?_set_ne (fun q => hji1 q.symm)] at hj
  by_cases hji : j = i
  · subst hji
    have : w = v := by
      rw [List.getElem?_set_self' ] at hj
      cases hq : lo[j]? with
      | none => rw [hq] at hj; cases hj
      | some o => rw [hq] at hj; simpa using hj.symm
    subst this
    exact h.2.2 (j, cvV ad w) List.mem_cons_self
  · rw [List.getElem?_set_ne (fun q => hji q.symm)] at hj
    refine h.2.2 (j, cvV ad w) (List.mem_cons_of_mem _ (List.mem_filter.mpr ⟨loA_mem.mpr ⟨w, hj, rfl⟩, ?_⟩))
    simp only [Bool.and_eq_true, Bool.not_eq_true', beq_eq_false_iff_ne, ne_eq, hji, hji1, not_false_eq_true, true_and, Bool.and_eq_false_iff]
    by_cases hc : j + 1 = i
    · right
      subst hc
      simp only [stOK, hj, Bool.not_eq_true'] at hok
      rw [cvV_cat]
      cases hw : (w.category == 2) with
      | false => simpa using hw
      | true => rw [isW_of (by simpa using hw)] at hok; cases hok
    · left; simpa using hc
/-! what a method's body stands in: p l e R s m args below meth c, A, D, cy, Q -/
abbrev Kx : Type := Program × Launch × Env × Room × State × MethodId × Array Value × List Frame × Method × Code × (Nat → Prop) × va_G × (Nat → Nat) × (State → Prop)
abbrev Kx.p (κ : Kx) : Program := κ.1
abbrev Kx.l (κ : Kx) : Launch := κ.2.1
abbrev Kx.e (κ : Kx) : Env := κ.2.2.1
abbrev Kx.R (κ : Kx) : Room := κ.2.2.2.1
abbrev Kx.s (κ : Kx) : State := κ.2.2.2.2.1
abbrev Kx.m (κ : Kx) : MethodId := κ.2.2.2.2.2.1
abbrev Kx.args (κ : Kx) : Array Value := κ.2.2.2.2.2.2.1
abbrev Kx.below (κ : Kx) : List Frame := κ.2.2.2.2.2.2.2.1
abbrev Kx.meth (κ : Kx) : Method := κ.2.2.2.2.2.2.2.2.1
abbrev Kx.c (κ : Kx) : Code := κ.2.2.2.2.2.2.2.2.2.1
abbrev Kx.A (κ : Kx) : Nat → Prop := κ.2.2.2.2.2.2.2.2.2.2.1
abbrev Kx.D (κ : Kx) : va_G := κ.2.2.2.2.2.2.2.2.2.2.2.1
abbrev Kx.cy (κ : Kx) : Nat → Nat := κ.2.2.2.2.2.2.2.2.2.2.2.2.1
abbrev Kx.Q (κ : Kx) : State → Prop := κ.2.2.2.2.2.2.2.2.2.2.2.2.2
/-- the number of cells, where they lie, the room taken -/
abbrev Om : Type := Nat × (Nat → Nat) × Nat × Nat
/-- from here (pc, locals, stack, heap) the method comes to its end -/
def X (κ : Kx) (nL : Nat) (ω : Om) (pc : Nat) (lo : List (Option Value)) (st : List Value) (σ : Hp) : Prop :=
  ∀ (H : Heap) (locs : List Loc) (ls : Array Slot), lh ls nL ω.2.1 lo → va_P κ.D vwCl (wl κ.cy ω.1 ω.2.1 σ) H → va_D κ.A (wl κ.cy ω.1 ω.2.1 σ) → va_S κ.A κ.s.heap H locs →
    W κ.p κ.l κ.e κ.R κ.s κ.m κ.args κ.below κ.meth κ.c H locs ω.2.2.1 ω.2.2.2 κ.Q (F0 κ.m pc ls (st.map (cvV ω.2.1)))
/-- the machine, the code, the names: what each row needs -/
def Cx (κ : Kx) (nL lev : Nat) (cc : ByteArray) (own mnm : String) : Prop :=
  κ.p.tables.exec = Jvm.exec ∧ κ.c.code = cc ∧ κ.c.maxLocals = nL ∧ κ.s.vm.findClass own = some κ.m.cls ∧ Uni κ.s ∧ va_K κ.D vwCl (tyL κ.cy) κ.s ∧ κ.meth.locks = false ∧ (∀ q, κ.s.heap.size ≤ q → κ.A q) ∧ (lev ≤ κ.R.frames ∧ 40 * lev ≤ κ.R.locals) ∧ κ.meth.name = mnm

