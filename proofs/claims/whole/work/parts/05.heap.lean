/-! reading and writing the heap by numbers; 'none' where the machine would throw -/
def gV (N : Nat) (σ : Hp) (i ci j : Nat) : Option Value := if i < N then (match σ i with
  | .inr o => if o.1 = ci then o.2[j]? else none
  | .inl _ => none) else none
def asI : Value → Option Int32
  | .int x => some x
  | _ => none
def asR : Value → Option Nat
  | .ref x => some x
  | _ => none
def asQ : Value → Option (Option Nat)
  | .ref x => some (some x)
  | .null => some none
  | _ => none
def gI (N : Nat) (σ : Hp) (i ci j : Nat) : Option Int32 := (gV N σ i ci j).bind asI
def gR (N : Nat) (σ : Hp) (i ci j : Nat) : Option Nat := (gV N σ i ci j).bind asR
def gQ (N : Nat) (σ : Hp) (i ci j : Nat) : Option (Option Nat) := (gV N σ i ci j).bind asQ
def pV (N : Nat) (σ : Hp) (i ci j : Nat) (v : Value) : Option Hp := if i < N then (match σ i with
  | .inr o => if o.1 = ci ∧ j < o.2.length then some (va_up σ i (.inr (ci, o.2.set j v))) else none
  | .inl _ => none) else none
def aI (t N : Nat) (σ : Hp) (i : Nat) (x : Int32) : Option Int32 := if i < N then (match σ i with
  | .inl (c, n, .inl f) => if c = t ∧ ¬ (x < 0 ∨ n ≤ x.toNatClampNeg) then some (f x.toNatClampNeg) else none
  | _ => none) else none
def aJ (N : Nat) (σ : Hp) (i : Nat) (x : Int32) : Option Int64 := if i < N then (match σ i with
  | .inl (c, n, .inr (.inl f)) => if c = 1 ∧ ¬ (x < 0 ∨ n ≤ x.toNatClampNeg) then some (f x.toNatClampNeg) else none
  | _ => none) else none
def aR (t N : Nat) (σ : Hp) (i : Nat) (x : Int32) : Option Nat := if i < N then (match σ i with
  | .inl (c, n, .inr (.inr (.inr (.inr f)))) => if c = t ∧ ¬ (x < 0 ∨ n ≤ x.toNatClampNeg) then f x.toNatClampNeg else none
  | _ => none) else none
def nar (t : Nat) (v : Int32) : Int32 := if t = 2 then vp_nar .byte v else if t = 3 then vp_nar .boolean v else v
def sI (t N : Nat) (σ : Hp) (i : Nat) (x v : Int32) : Option Hp := if i < N then (match σ i with
  | .inl (c, n, .inl f) => if c = t ∧ ¬ (x < 0 ∨ n ≤ x.toNatClampNeg) then some (va_up σ i (.inl (c, n, .inl (upd f x.toNatClampNeg (nar t v))))) else none
  | _ => none) else none
def sJ (N : Nat) (σ : Hp) (i : Nat) (x : Int32) (v : Int64) : Option Hp := if i < N then (match σ i with
  | .inl (c, n, .inr (.inl f)) => if c = 1 ∧ ¬ (x < 0 ∨ n ≤ x.toNatClampNeg) then some (va_up σ i (.inl (c, n, .inr (.inl (vp_updL f x.toNatClampNeg v))))) else none
  | _ => none) else none
def aN (N : Nat) (σ : Hp) (i : Nat) : Option Nat := if i < N then (match σ i with
  | .inl a => if a.1 < 6 then some a.2.1 else none
  | .inr _ => none) else none
theorem ob {α β : Type} {o : Option α} {f : α → Option β} {r : β} (h : o.bind f = some r) : ∃ x, o = some x ∧ f x = some r := by
  cases o with
  | none => cases h
  | some x => exact ⟨x, rfl, h⟩
def lt {α β : Type} (a : α) (f : α → β) : β := f a
theorem lt_e {α β : Type} {a : α} {f : α → β} {r : β} (h : lt a f = r) {x : α} (e : x = a) : f x = r := by subst e; exact h
theorem ifP {α : Type} {c : Prop} {d : Decidable c} {a b r : α} (h : @ite α c d a b = r) (hc : c) : a = r := by rw [if_pos hc] at h; exact h
theorem ifN {α : Type} {c : Prop} {d : Decidable c} {a b r : α} (h : @ite α c d a b = r) (hc : ¬ c) : b = r := by rw [if_neg hc] at h; exact h
theorem gV_spec {N : Nat} {σ : Hp} {i ci j : Nat} {v : Value} (h : gV N σ i ci j = some v) : i < N ∧ ∃ fs, σ i = .inr (ci, fs) ∧ fs[j]? = some v := by
  unfold gV at h
  split at h
  case isFalse => cases h
  case isTrue hi =>
    refine ⟨hi, ?_⟩
    split at h
    case h_2 => cases h
    case h_1 o ho =>
      split at h
      case isFalse => cases h
      case isTrue hc => exact ⟨o.2, by rw [ho, ← hc], h⟩
theorem gI_spec {N : Nat} {σ : Hp} {i ci j : Nat} {x : Int32} (h : gI N σ i ci j = some x) : gV N σ i ci j = some (.int x) := by
  obtain ⟨v, h1, h2⟩ := ob h
  cases v <;> simp [asI] at h2
  rw [h1, h2]
theorem gR_spec {N : Nat} {σ : Hp} {i ci j : Nat} {x : Nat} (h : gR N σ i ci j = some x) : gV N σ i ci j = some (.ref x) := by
  obtain ⟨v, h1, h2⟩ := ob h
  cases v <;> simp [asR] at h2
  rw [h1, h2]
theorem gQ_spec {N : Nat} {σ : Hp} {i ci j : Nat} {x : Option Nat} (h : gQ N σ i ci j = some x) : gV N σ i ci j = some (va_rf x) := by
  obtain ⟨v, h1, h2⟩ := ob h
  cases v <;> simp [asQ] at h2
  · rw [h1, ← h2]; rfl
  · rw [h1, ← h2]; rfl
theorem pV_spec {N : Nat} {σ σ' : Hp} {i ci j : Nat} {v : Value} (h : pV N σ i ci j v = some σ') : i < N ∧ ∃ fs, σ i = .inr (ci, fs) ∧ j < fs.length ∧ σ' = va_up σ i (.inr (ci, fs.set j v)) := by
  unfold pV at h
  split at h
  case isFalse => cases h
  case isTrue hi =>
    refine ⟨hi, ?_⟩
    split at h
    case h_2 => cases h
    case h_1 o ho =>
      split at h
      case isFalse => cases h
      case isTrue hc =>
        cases h
        exact ⟨o.2, by rw [ho, ← hc.1], hc.2, rfl⟩
theorem aI_spec {t N : Nat} {σ : Hp} {i : Nat} {x y : Int32} (h : aI t N σ i x = some y) : i < N ∧ ∃ n f, σ i = .inl (t, n, .inl f) ∧ vp_in x n ∧ y = f x.toNatClampNeg := by
  unfold aI at h
  split at h
  case isFalse => cases h
  case isTrue hi =>
    refine ⟨hi, ?_⟩
    split at h
    case h_2 => cases h
    case h_1 c n f ho =>
      split at h
      case isFalse => cases h
      case isTrue hc =>
        cases h
        exact ⟨n, f, by rw [ho, ← hc.1], hc.2, rfl⟩
theorem aJ_spec {N : Nat} {σ : Hp} {i : Nat} {x : Int32} {y : Int64} (h : aJ N σ i x = some y) : i < N ∧ ∃ n f, σ i = .inl (1, n, .inr (.inl f)) ∧ vp_in x n ∧ y = f x.toNatClampNeg := by
  unfold aJ at h
  split at h
  case isFalse => cases h
  case isTrue hi =>
    refine ⟨hi, ?_⟩
    split at h
    case h_2 => cases h
    case h_1 c n f ho =>
      split at h
      case isFalse => cases h
      case isTrue hc =>
        cases h
        exact ⟨n, f, by rw [ho, ← hc.1], hc.2, rfl⟩
theorem aR_spec {t N : Nat} {σ : Hp} {i : Nat} {x : Int32} {y : Nat} (h : aR t N σ i x = some y) : i < N ∧ ∃ n f, σ i = .inl (t, n, .inr (.inr (.inr (.inr f)))) ∧ vp_in x n ∧ f x.toNatClampNeg = some y := by
  unfold aR at h
  split at h
  case isFalse => cases h
  case isTrue hi =>
    refine ⟨hi, ?_⟩
    split at h
    case h_2 => cases h
    case h_1 c n f ho =>
      split at h
      case isFalse => cases h
      case isTrue hc =>
        exact ⟨n, f, by rw [ho, ← hc.1], hc.2, h⟩
theorem sI_spec {t N : Nat} {σ σ' : Hp} {i : Nat} {x v : Int32} (h : sI t N σ i x v = some σ') : i < N ∧ ∃ n f, σ i = .inl (t, n, .inl f) ∧ vp_in x n ∧ σ' = va_up σ i (.inl (t, n, .inl (upd f x.toNatClampNeg (nar t v)))) := by
  unfold sI at h
  split at h
  case isFalse => cases h
  case isTrue hi =>
    refine ⟨hi, ?_⟩
    split at h
    case h_2 => cases h
    case h_1 c n f ho =>
      split at h
      case isFalse => cases h
      case isTrue hc =>
        cases h
        exact ⟨n, f, by rw [ho, ← hc.1], hc.2, by rw [hc.1]⟩
theorem sJ_spec {N : Nat} {σ σ' : Hp} {i : Nat} {x : Int32} {v : Int64} (h : sJ N σ i x v = some σ') : i < N ∧ ∃ n f, σ i = .inl (1, n, .inr (.inl f)) ∧ vp_in x n ∧ σ' = va_up σ i (.inl (1, n, .inr (.inl (vp_updL f x.toNatClampNeg v)))) := by
  unfold sJ at h
  split at h
  case isFalse => cases h
  case isTrue hi =>
    refine ⟨hi, ?_⟩
    split at h
    case h_2 => cases h
    case h_1 c n f ho =>
      split at h
      case isFalse => cases h
      case isTrue hc =>
        cases h
        exact ⟨n, f, by rw [ho, ← hc.1], hc.2, by rw [hc.1]⟩
theorem aN_spec {N : Nat} {σ : Hp} {i n : Nat} (h : aN N σ i = some n) : i < N ∧ ∃ (c : Nat) (x : (Nat → Int32) ⊕ (Nat → Int64) ⊕ (Nat → UInt32) ⊕ (Nat → UInt64) ⊕ (Nat → Option Nat)), σ i = .inl (c, n, x) ∧ c < 6 := by
  unfold aN at h
  split at h
  case isFalse => cases h
  case isTrue hi =>
    refine ⟨hi, ?_⟩
    split at h
    case h_2 => cases h
    case h_1 a ho =>
      split at h
      case isFalse => cases h
      case isTrue hc => cases h; exact ⟨a.1, a.2.2, ho, hc⟩
/-! links: what the words say of a place of the pool -/
def CI (ci : Nat) (C : String) (T : u_T) (n : Nat) (ty : Nat → FieldType) : Prop := vwCl[ci]? = some (C, T, n) ∧ (∀ w ∈ u_ws C T n, w ∈ TB) ∧ (∀ k, k < n → parseFieldDescriptor (T k).2.2.1 = some (ty k)) ∧ (∀ a, a < n → ∀ b, b < n → a ≠ b → (T a).2.1 ≠ (T b).2.1)
def FL (own : String) (idx ci j : Nat) : Prop := ∃ C T n ty, CI ci C T n ty ∧ j < n ∧ (Cond.fieldLink own idx (T j).1 (T j).2.1 (T j).2.2.1 ∈ TB ∨ ∃ host, Cond.fieldLinkNest own idx (T j).1 (T j).2.1 (T j).2.2.1 host ∈ TB)
def PL (own : String) (idx ci j : Nat) (t : FieldType) : Prop := ∃ C T n ty, CI ci C T n ty ∧ j < n ∧ (Cond.fieldLink own idx (T j).1 (T j).2.1 (T j).2.2.1 ∈ TB ∨ ∃ host, Cond.fieldLinkNest own idx (T j).1 (T j).2.1 (T j).2.2.1 host ∈ TB) ∧ (T j).2.2.2 = false ∧ parseFieldDescriptor (T j).2.2.1 = some t
def PF (own : String) (idx ci j : Nat) (t : FieldType) : Prop := ∃ C T n ty, CI ci C T n ty ∧ j < n ∧ Cond.fieldLink own idx (T j).1 (T j).2.1 (T j).2.2.1 ∈ TB ∧ (T j).2.2.2 = true ∧ (T j).1 = own ∧ parseFieldDescriptor (T j).2.2.1 = some t
theorem cvV_rf (ad : Nat → Nat) (q : Option Nat) : cvV ad (va_rf q) = va_rf (q.map ad) := by cases q <;> rfl
section HeapRows
variable {κ : Kx} {nL lev : Nat} {cc : ByteArray} {own mnm : String} {ω : Om} {pc : Nat} {lo : List (Option Value)} {st : List Value} {σ : Hp}
theorem x_getV (C : Cx κ nL lev cc own mnm) {idx i ci j : Nat} {v : Value} (lk : FL own idx ci j) (hd : decode cc pc = .ok (.getfield idx, 3)) (hg : gV ω.1 σ i ci j = some v) (k : X κ nL ω (pc + 3) lo (v :: st) σ) : X κ nL ω pc lo (.ref i :: st) σ := by
  intro H locs ls hl hP hD hS
  obtain ⟨hi, fs, he, hf⟩ := gV_spec hg
  obtain ⟨Cn, T, n, ty, hci, hj, hlk⟩ := lk
  have hU : ∀ w ∈ TB, w.before κ.args κ.s = true := fun w h => C.2.2.2.2.1 w h _
  have hv : (fs.map (cvV ω.2.1))[j]? = some (cvV ω.2.1 v) := by rw [List.getElem?_map, hf]; rfl
  rcases hlk with h1 | ⟨host, h1⟩
  · exact va_get C.1 C.2.1 hU hci.2.1 C.2.2.2.1 C.2.2.2.2.2.1 hP i (wl_atE hi he) hci.1 j hj (hU _ h1) (fun _ h => h) hv hd (k H locs ls hl hP hD hS)
  · exact va_getN C.1 C.2.1 hU hci.2.1 C.2.2.2.1 C.2.2.2.2.2.1 hP i (wl_atE hi he) hci.1 j hj (hU _ h1) (fun _ h => h) hv hd (k H locs ls hl hP hD hS)
theorem x_getI (C : Cx κ nL lev cc own mnm) {idx i ci j : Nat} {x : Int32} (lk : FL own idx ci j) (hd : decode cc pc = .ok (.getfield idx, 3)) (hg : gI ω.1 σ i ci j = some x) (k : X κ nL ω (pc + 3) lo (.int x :: st) σ) : X κ nL ω pc lo (.ref i :: st) σ := x_getV C lk hd (gI_spec hg) k
theorem x_getR (C : Cx κ nL lev cc own mnm) {idx i ci j x : Nat} (lk : FL own idx ci j) (hd : decode cc pc = .ok (.getfield idx, 3)) (hg : gR ω.1 σ i ci j = some x) (k : X κ nL ω (pc + 3) lo (.ref x :: st) σ) : X κ nL ω pc lo (.ref i :: st) σ := x_getV C lk hd (gR_spec hg) k
theorem x_getQ (C : Cx κ nL lev cc own mnm) {idx i ci j : Nat} {x : Option Nat} (lk : FL own idx ci j) (hd : decode cc pc = .ok (.getfield idx, 3)) (hg : gQ ω.1 σ i ci j = some x) (k : X κ nL ω (pc + 3) lo (va_rf x :: st) σ) : X κ nL ω pc lo (.ref i :: st) σ := x_getV C lk hd (gQ_spec hg) k
theorem x_put (C : Cx κ nL lev cc own mnm) {idx i ci j : Nat} {t : FieldType} {v : Value} {σ' : Hp} (lk : PL own idx ci j t) (hd : decode cc pc = .ok (.putfield idx, 3)) (hn : ∀ ad, narrow t (cvV ad v) = cvV ad v ∧ fits t (cvV ad v) = true) (hg : pV ω.1 σ i ci j v = some σ') (k : X κ nL ω (pc + 3) lo st σ') : X κ nL ω pc lo (v :: .ref i :: st) σ := by
  intro H locs ls hl hP hD hS
  obtain ⟨hi, fs, he, hf, rfl⟩ := pV_spec hg
  obtain ⟨Cn, T, n, ty, hci, hj, hlk, hfin, hpd⟩ := lk
  have hU : ∀ w ∈ TB, w.before κ.args κ.s = true := fun w h => C.2.2.2.2.1 w h _
  have hs : (wl κ.cy ω.1 ω.2.1 σ).set i (ω.2.1 i, .inr (ci, (fs.map (cvV ω.2.1)).set j (cvV ω.2.1 v))) = wl κ.cy ω.1 ω.2.1 (va_up σ i (.inr (ci, fs.set j v))) := by
    rw [← wl_set _ hi]; simp only [cvE, List.map_set]
  rcases hlk with h1 | ⟨host, h1⟩
  · refine va_put C.1 C.2.1 hU hci.2.1 ty hci.2.2.1 hci.2.2.2 C.2.2.2.1 C.2.2.2.2.2.1 hP hD hS i (wl_atE hi he) hci.1 j hj (hU _ h1) (fun _ h => h) hfin hpd (hn _).1 (hn _).2 (by rw [List.length_map]; exact hf) hd (fun H1 locs1 hP hD hS => ?_)
    rw [hs] at hP hD
    exact k H1 locs1 ls hl hP hD hS
  · refine va_putN C.1 C.2.1 hU hci.2.1 ty hci.2.2.1 hci.2.2.2 C.2.2.2.1 C.2.2.2.2.2.1 hP hD hS i (wl_atE hi he) hci.1 j hj (hU _ h1) (fun _ h => h) hfin hpd (hn _).1 (hn _).2 (by rw [List.length_map]; exact hf) hd (fun H1 locs1 hP hD hS => ?_)
    rw [hs] at hP hD
    exact k H1 locs1 ls hl hP hD hS
theorem x_putF (C : Cx κ nL lev cc own "<init>") {idx i ci j : Nat} {t : FieldType} {v : Value} {σ' : Hp} (lk : PF own idx ci j t) (hd : decode cc pc = .ok (.putfield idx, 3)) (hn : ∀ ad, narrow t (cvV ad v) = cvV ad v ∧ fits t (cvV ad v) = true) (hg : pV ω.1 σ i ci j v = some σ') (k : X κ nL ω (pc + 3) lo st σ') : X κ nL ω pc lo (v :: .ref i :: st) σ := by
  intro H locs ls hl hP hD hS
  obtain ⟨hi, fs, he, hf, rfl⟩ := pV_spec hg
  obtain ⟨Cn, T, n, ty, hci, hj, h1, hfin, hdecl, hpd⟩ := lk
  have hU : ∀ w ∈ TB, w.before κ.args κ.s = true := fun w h => C.2.2.2.2.1 w h _
  have hs : (wl κ.cy ω.1 ω.2.1 σ).set i (ω.2.1 i, .inr (ci, (fs.map (cvV ω.2.1)).set j (cvV ω.2.1 v))) = wl κ.cy ω.1 ω.2.1 (va_up σ i (.inr (ci, fs.set j v))) := by
    rw [← wl_set _ hi]; simp only [cvE, List.map_set]
  refine va_putF C.1 C.2.1 hU hci.2.1 ty hci.2.2.1 hci.2.2.2 C.2.2.2.1 C.2.2.2.2.2.1 hP hD hS i (wl_atE hi he) hci.1 j hj (hU _ h1) (fun _ h => h) hfin C.2.2.2.2.2.2.2.2.2 hdecl hpd (hn _).1 (hn _).2 (by rw [List.length_map]; exact hf) hd (fun H1 locs1 hP hD hS => ?_)
  rw [hs] at hP hD
  exact k H1 locs1 ls hl hP hD hS
theorem x_iald (C : Cx κ nL lev cc own mnm) {i : Nat} {x y : Int32} (hd : decode cc pc = .ok (.iaload, 1)) (hg : aI 0 ω.1 σ i x = some y) (k : X κ nL ω (pc + 1) lo (.int y :: st) σ) : X κ nL ω pc lo (.int x :: .ref i :: st) σ := by
  intro H locs ls hl hP hD hS
  obtain ⟨hi, n, f, he, hin, rfl⟩ := aI_spec hg
  exact va_iald C.1 C.2.1 C.2.2.2.2.2.1 hP i 0 (wl_atE hi he) rfl hin hd (k H locs ls hl hP hD hS)
theorem x_bald (C : Cx κ nL lev cc own mnm) {i : Nat} {x y : Int32} (hd : decode cc pc = .ok (.baload, 1)) (hg : aI 2 ω.1 σ i x = some y) (k : X κ nL ω (pc + 1) lo (.int y :: st) σ) : X κ nL ω pc lo (.int x :: .ref i :: st) σ := by
  intro H locs ls hl hP hD hS
  obtain ⟨hi, n, f, he, hin, rfl⟩ := aI_spec hg
  exact va_bald C.1 C.2.1 C.2.2.2.2.2.1 hP i 2 (wl_atE hi he) rfl hin hd (k H locs ls hl hP hD hS)
theorem x_zald (C : Cx κ nL lev cc own mnm) {i : Nat} {x y : Int32} (hd : decode cc pc = .ok (.baload, 1)) (hg : aI 3 ω.1 σ i x = some y) (k : X κ nL ω (pc + 1) lo (.int y :: st) σ) : X κ nL ω pc lo (.int x :: .ref i :: st) σ := by
  intro H locs ls hl hP hD hS
  obtain ⟨hi, n, f, he, hin, rfl⟩ := aI_spec hg
  exact va_zald C.1 C.2.1 C.2.2.2.2.2.1 hP i 3 (wl_atE hi he) rfl hin hd (k H locs ls hl hP hD hS)
theorem x_lald (C : Cx κ nL lev cc own mnm) {i : Nat} {x : Int32} {y : Int64} (hd : decode cc pc = .ok (.laload, 1)) (hg : aJ ω.1 σ i x = some y) (k : X κ nL ω (pc + 1) lo (.long y :: st) σ) : X κ nL ω pc lo (.int x :: .ref i :: st) σ := by
  intro H locs ls hl hP hD hS
  obtain ⟨hi, n, f, he, hin, rfl⟩ := aJ_spec hg
  exact va_lald C.1 C.2.1 C.2.2.2.2.2.1 hP i 1 (wl_atE hi he) rfl hin hd (k H locs ls hl hP hD hS)
theorem x_aald4 (C : Cx κ nL lev cc own mnm) {i : Nat} {x : Int32} {y : Nat} (hd : decode cc pc = .ok (.aaload, 1)) (hg : aR 4 ω.1 σ i x = some y) (k : X κ nL ω (pc + 1) lo (.ref y :: st) σ) : X κ nL ω pc lo (.int x :: .ref i :: st) σ := by
  intro H locs ls hl hP hD hS
  obtain ⟨hi, n, f, he, hin, hy⟩ := aR_spec hg
  refine va_aldq C.1 C.2.1 C.2.2.2.2.2.1 hP i 4 (wl_atE hi he) rfl hin hd ?_
  rw [hy]
  exact k H locs ls hl hP hD hS
theorem x_aald5 (C : Cx κ nL lev cc own mnm) {i : Nat} {x : Int32} {y : Nat} (hd : decode cc pc = .ok (.aaload, 1)) (hg : aR 5 ω.1 σ i x = some y) (k : X κ nL ω (pc + 1) lo (.ref y :: st) σ) : X κ nL ω pc lo (.int x :: .ref i :: st) σ := by
  intro H locs ls hl hP hD hS
  obtain ⟨hi, n, f, he, hin, hy⟩ := aR_spec hg
  refine va_aldq C.1 C.2.1 C.2.2.2.2.2.1 hP i 5 (wl_atE hi he) rfl hin hd ?_
  rw [hy]
  exact k H locs ls hl hP hD hS
theorem x_iast (C : Cx κ nL lev cc own mnm) {i : Nat} {x v : Int32} {σ' : Hp} (hd : decode cc pc = .ok (.iastore, 1)) (hg : sI 0 ω.1 σ i x v = some σ') (k : X κ nL ω (pc + 1) lo st σ') : X κ nL ω pc lo (.int v :: .int x :: .ref i :: st) σ := by
  intro H locs ls hl hP hD hS
  obtain ⟨hi, n, f, he, hin, rfl⟩ := sI_spec hg
  refine va_iast C.1 C.2.1 C.2.2.2.2.2.1 hP hD hS i 0 (wl_atE hi he) rfl hin hd (fun H1 locs1 hP hD hS => ?_)
  have hs := wl_set (cy := κ.cy) (ad := ω.2.1) (σ := σ) (.inl (0, n, .inl (upd f x.toNatClampNeg v))) hi
  simp only [cvE] at hs
  rw [hs] at hP hD
  exact k H1 locs1 ls hl hP hD hS
theorem x_bast (C : Cx κ nL lev cc own mnm) {i : Nat} {x v : Int32} {σ' : Hp} (hd : decode cc pc = .ok (.bastore, 1)) (hg : sI 2 ω.1 σ i x v = some σ') (k : X κ nL ω (pc + 1) lo st σ') : X κ nL ω pc lo (.int v :: .int x :: .ref i :: st) σ := by
  intro H locs ls hl hP hD hS
  obtain ⟨hi, n, f, he, hin, rfl⟩ := sI_spec hg
  refine va_bast C.1 C.2.1 C.2.2.2.2.2.1 hP hD hS i 2 (wl_atE hi he) rfl hin hd (fun H1 locs1 hP hD hS => ?_)
  have hs := wl_set (cy := κ.cy) (ad := ω.2.1) (σ := σ) (.inl (2, n, .inl (upd f x.toNatClampNeg (vp_nar .byte v)))) hi
  simp only [cvE] at hs
  rw [hs] at hP hD
  exact k H1 locs1 ls hl hP hD hS
theorem x_zast (C : Cx κ nL lev cc own mnm) {i : Nat} {x v : Int32} {σ' : Hp} (hd : decode cc pc = .ok (.bastore, 1)) (hg : sI 3 ω.1 σ i x v = some σ') (k : X κ nL ω (pc + 1) lo st σ') : X κ nL ω pc lo (.int v :: .int x :: .ref i :: st) σ := by
  intro H locs ls hl hP hD hS
  obtain ⟨hi, n, f, he, hin, rfl⟩ := sI_spec hg
  refine va_zast C.1 C.2.1 C.2.2.2.2.2.1 hP hD hS i 3 (wl_atE hi he) rfl hin hd (fun H1 locs1 hP hD hS => ?_)
  have hs := wl_set (cy := κ.cy) (ad := ω.2.1) (σ := σ) (.inl (3, n, .inl (upd f x.toNatClampNeg (vp_nar .boolean v)))) hi
  simp only [cvE] at hs
  rw [hs] at hP hD
  exact k H1 locs1 ls hl hP hD hS
theorem x_last (C : Cx κ nL lev cc own mnm) {i : Nat} {x : Int32} {v : Int64} {σ' : Hp} (hd : decode cc pc = .ok (.lastore, 1)) (hg : sJ ω.1 σ i x v = some σ') (k : X κ nL ω (pc + 1) lo st σ') : X κ nL ω pc lo (.long v :: .int x :: .ref i :: st) σ := by
  intro H locs ls hl hP hD hS
  obtain ⟨hi, n, f, he, hin, rfl⟩ := sJ_spec hg
  refine va_last C.1 C.2.1 C.2.2.2.2.2.1 hP hD hS i 1 (wl_atE hi he) rfl hin hd (fun H1 locs1 hP hD hS => ?_)
  have hs := wl_set (cy := κ.cy) (ad := ω.2.1) (σ := σ) (.inl (1, n, .inr (.inl (vp_updL f x.toNatClampNeg v)))) hi
  simp only [cvE] at hs
  rw [hs] at hP hD
  exact k H1 locs1 ls hl hP hD hS
theorem x_alen (C : Cx κ nL lev cc own mnm) {i n : Nat} (hd : decode cc pc = .ok (.arraylength, 1)) (hg : aN ω.1 σ i = some n) (k : X κ nL ω (pc + 1) lo (.int (nI n) :: st) σ) : X κ nL ω pc lo (.ref i :: st) σ := by
  intro H locs ls hl hP hD hS
  obtain ⟨hi, c, x, he, hc⟩ := aN_spec hg
  obtain ⟨ty, hty⟩ : ∃ ty, (tyL κ.cy)[c]? = some (κ.cy c, ty) := by
    rcases (show c = 0 ∨ c = 1 ∨ c = 2 ∨ c = 3 ∨ c = 4 ∨ c = 5 by omega) with rfl | rfl | rfl | rfl | rfl | rfl <;> exact ⟨_, rfl⟩
  have hP' := wl_atE (cy := κ.cy) (ad := ω.2.1) hi he
  obtain f | f | f | f | f := x <;> exact va_alen C.1 C.2.1 C.2.2.2.2.2.1 hP i c hP' hty rfl hd (k H locs ls hl hP hD hS)
end HeapRows
