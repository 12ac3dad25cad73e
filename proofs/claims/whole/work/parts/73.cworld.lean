/-! what the class notes while it searches -/
def seen (S : BS) : Nat → Nat → Bool
  | 0, _ => false
  | i + 1, x => seen S i x || (S.q i % 4096 == x)
def nR (S : BS) : Nat → Nat
  | 0 => 0
  | i + 1 => nR S i + (if seen S i (S.q i % 4096) then 0 else 1)
def dR (mm : Nat → Nat) (S : BS) : Nat → Nat
  | 0 => 0
  | i + 1 => dR mm S i + (if seen S i (S.q i % 4096) then 0 else if mm (S.q i) = 0 then 1 else 0)
def fM (S : BS) : Nat → Nat
  | 0 => 0
  | i + 1 => if seen S i (S.q i % 4096) then fM S i else if fM S i < S.dq i + 1 then S.dq i + 1 else fM S i
def fF (S : BS) : Nat → Nat
  | 0 => 0
  | i + 1 => if seen S i (S.q i % 4096) then fF S i else if fM S i < S.dq i + 1 then S.q i % 4096 else if fM S i = S.dq i + 1 ∧ S.q i % 4096 < fF S i then S.q i % 4096 else fF S i
/-- the first that leads back: one more than its steps; 9000: none yet -/
def bkR (mv : Nat → Nat → Bool) (nx : Nat → Nat → Nat) (a : Nat) (S : BS) : Nat → Nat
  | 0 => 9000
  | i + 1 => if bkR mv nx a S i = 9000 then (if bef mv nx (arT a) (S.q i) then S.dq i + 1 else 9000) else bkR mv nx a S i
theorem ext_all {S S' : BS} (h : BS.ext S S') (mm : Nat → Nat) (mv : Nat → Nat → Bool) (nx : Nat → Nat → Nat) (a : Nat) : ∀ i, i ≤ S.n → (∀ x, seen S' i x = seen S i x) ∧ nR S' i = nR S i ∧ dR mm S' i = dR mm S i ∧ fM S' i = fM S i ∧ fF S' i = fF S i ∧ bkR mv nx a S' i = bkR mv nx a S i := by
  intro i
  induction i with
  | zero => intro _; exact ⟨fun _ => rfl, rfl, rfl, rfl, rfl, rfl⟩
  | succ i ih =>
    intro hi
    obtain ⟨i1, i2, i3, i4, i5, i6⟩ := ih (by omega)
    obtain ⟨e1, e2⟩ := h.2 i (by omega)
    refine ⟨fun x => by rw [seen, seen, i1, e1], ?_, ?_, ?_, ?_, ?_⟩
    · rw [nR, nR, i2, e1, i1]
    · rw [dR, dR, i3, e1, i1]
    · rw [fM, fM, i4, e1, e2, i1]
    · rw [fF, fF, i4, i5, e1, e2, i1]
    · rw [bkR, bkR, i6, e1, e2]
theorem seen_iff {S : BS} : ∀ i x, seen S i x = true ↔ ∃ j, j < i ∧ S.q j % 4096 = x := by
  intro i
  induction i with
  | zero => intro x; exact ⟨fun h => absurd h (by simp [seen]), fun ⟨j, h, _⟩ => absurd h (by omega)⟩
  | succ i ih =>
    intro x
    rw [seen, Bool.or_eq_true, ih, beq_iff_eq]
    constructor
    · rintro (⟨j, h1, h2⟩ | h)
      · exact ⟨j, by omega, h2⟩
      · exact ⟨i, by omega, h⟩
    · rintro ⟨j, h1, h2⟩
      by_cases c : j = i
      · subst c; exact Or.inr h2
      · exact Or.inl ⟨j, by omega, h2⟩
section Wd
variable {tn : Bool} {bd : AB} {S : BS} {m : Nat}
/-- the graph of the class -/
abbrev cI (tn : Bool) (bd : AB) (S : BS) (i k : Nat) : Prop := BI (lgl bd.P bd.H bd.D bd.kd) (cnx tn bd.H bd.D bd.kd) (CV tn bd.P bd.D) (cpi tn (stx bd)) S i k
theorem q_map (hV : VB m bd) (h0 : bd ≠ noB) (hf : frl bd.D bd.kd tn) : (∀ x k, VX bd.P bd.D x → k < 16 → lgl bd.P bd.H bd.D bd.kd x k = true → VX bd.P bd.D (bhd bd.H bd.D bd.kd x k)) ∧ (∀ x k, VX bd.P bd.D x → k < 16 → lgl bd.P bd.H bd.D bd.kd (cpi tn x) k = lgl bd.P bd.H bd.D bd.kd x k) ∧ (∀ x k, VX bd.P bd.D x → k < 16 → lgl bd.P bd.H bd.D bd.kd x k = true → cnx tn bd.H bd.D bd.kd (cpi tn x) k = cpi tn (bhd bd.H bd.D bd.kd x k)) := by
  obtain ⟨_, h6, _, _, _, hk⟩ := hV.d4
  exact ⟨fun x k hx _ hl => hx.nx h6 hl, fun x k _ _ => lgl_pi h6 (fun d _ => hk d) hf x k, fun x k hx _ hl => cnx_pi h6 (fun d _ => hk d) hf hx.1 hl⟩
theorem arT_pi (g : Nat) : ∀ x, arT g (cpi tn x) = arT g x := fun x => by
  unfold cpi arT
  cases tn with
  | true => rfl
  | false => show (x % 4096 % 4096 == g) = _; rw [Nat.mod_mod]
theorem cLs (hV : VB m bd) (h0 : bd ≠ noB) (hf : frl bd.D bd.kd tn) (g : Nat) : lsN (lgl bd.P bd.H bd.D bd.kd) (cnx tn bd.H bd.D bd.kd) (arT g) (cpi tn (stx bd)) = Lx bd g := by
  obtain ⟨a1, a2, a3⟩ := q_map hV h0 hf
  exact lsN_map a1 a2 a3 (arT_pi g) (VX_stx hV h0)
theorem cRg (hV : VB m bd) (h0 : bd ≠ noB) (hf : frl bd.D bd.kd tn) : lsN (lgl bd.P bd.H bd.D bd.kd) (cnx tn bd.H bd.D bd.kd) (bef (lgl bd.P bd.H bd.D bd.kd) (cnx tn bd.H bd.D bd.kd) (arT (stx bd % 4096))) (cpi tn (stx bd)) = rgN bd := by
  obtain ⟨a1, a2, a3⟩ := q_map hV h0 hf
  exact bef_map a1 a2 a3 (arT_pi _) (VX_stx hV h0)
/-- the first of its arrangement -/
theorem fst_at (hV : VB m bd) (h0 : bd ≠ noB) (hf : frl bd.D bd.kd tn) (h : cI tn bd S S.n 0) {i : Nat} (hi : i < S.n) (hs : seen S i (S.q i % 4096) = false) : Lx bd (S.q i % 4096) = S.dq i ∧ Lx bd (S.q i % 4096) < 8192 ∧ cpi tn (fsS bd (S.q i % 4096)) = S.q i := by
  have hmin : ∀ j, j < S.n → arT (S.q i % 4096) (S.q j) = true → S.dq i ≤ S.dq j := fun j hj e => by
    have e : S.q j % 4096 = S.q i % 4096 := by unfold arT at e; exact eq_of_beq e
    have : i ≤ j := by
      by_cases c : j < i
      · have := (seen_iff i (S.q i % 4096)).mpr ⟨j, c, e⟩
        rw [hs] at this
        exact absurd this (by decide)
      · omega
    exact h.2.2.2.2.2.1 i j this hj
  have hL : lsN (lgl bd.P bd.H bd.D bd.kd) (cnx tn bd.H bd.D bd.kd) (arT (S.q i % 4096)) (cpi tn (stx bd)) = S.dq i := h.least hi (by unfold arT; exact beq_self_eq_true _) hmin
  rw [cLs hV h0 hf] at hL
  have hn := h.n_le
  have hd := h.dq_le i i (Nat.le_refl _) hi
  refine ⟨hL, by omega, ?_⟩
  obtain ⟨_, q2, q3⟩ := h.2.1 i hi
  unfold fsS cpi
  cases tn with
  | true =>
    have hp := BI.par (P := bd.P) (H := bd.H) (D := bd.D) (kd := bd.kd) h i i (Nat.le_refl _) hi
    show S.q i % 4096 + 4096 * ((stx bd / 4096 + Lx bd (S.q i % 4096)) % 2) = S.q i
    rw [hL]
    have hp : S.q i / 4096 = (stx bd / 4096 + S.dq i) % 2 := hp
    rw [← hp]; omega
  | false =>
    have := q3.2 rfl
    show (S.q i % 4096 + 4096 * ((stx bd / 4096 + Lx bd (S.q i % 4096)) % 2)) % 4096 = S.q i
    omega
theorem seen_Lx (hV : VB m bd) (h0 : bd ≠ noB) (hf : frl bd.D bd.kd tn) (h : cI tn bd S S.n 0) {x : Nat} : seen S S.n x = true ↔ Lx bd x < 8192 := by
  rw [seen_iff]
  constructor
  · rintro ⟨j, j1, j2⟩
    rcases h.pick (fun i => arT x (S.q i)) with ⟨i, i1, i2, i3⟩ | hno
    · have hL : lsN (lgl bd.P bd.H bd.D bd.kd) (cnx tn bd.H bd.D bd.kd) (arT x) (cpi tn (stx bd)) = S.dq i := h.least i1 i2 (fun j' a1 a2 => (i3 j' a1 a2).2)
      rw [cLs hV h0 hf] at hL
      have hn := h.n_le
      have hd := h.dq_le i i (Nat.le_refl _) i1
      omega
    · have := hno j j1
      unfold arT at this
      rw [j2, beq_self_eq_true] at this
      exact absurd this (by decide)
  · intro hl
    rcases h.pick (fun i => arT x (S.q i)) with ⟨i, i1, i2, i3⟩ | hno
    · exact ⟨i, i1, by unfold arT at i2; exact eq_of_beq i2⟩
    · have := h.none (T := arT x) hno
      rw [cLs hV h0 hf] at this
      omega
/-- sums over what is seen -/
theorem seen_sum (w : Nat → Nat) : ∀ i, sgm (fun x => if seen S (i + 1) x then w x else 0) 4096 = sgm (fun x => if seen S i x then w x else 0) 4096 + (if seen S i (S.q i % 4096) then 0 else w (S.q i % 4096)) := by
  intro i
  by_cases c : seen S i (S.q i % 4096) = true
  · have e : (fun x => if seen S (i + 1) x then w x else 0) = (fun x => if seen S i x then w x else 0) := by
      funext x
      rw [seen]
      by_cases e : S.q i % 4096 = x
      · subst e; rw [c, Bool.true_or]
      · rw [beq_eq_false_iff_ne.mpr e, Bool.or_false]
    rw [e, if_pos c, Nat.add_zero]
  · rw [if_neg c]
    have e : (fun x => if seen S (i + 1) x then w x else 0) = vu (fun x => if seen S i x then w x else 0) (S.q i % 4096) ((fun x => if seen S i x then w x else 0) (S.q i % 4096) + w (S.q i % 4096)) := by
      funext x
      show (if seen S (i + 1) x = true then w x else 0) = _
      rw [seen]
      by_cases e : x = S.q i % 4096
      · subst e
        rw [vu_s, beq_self_eq_true, Bool.or_true, if_pos rfl]
        show _ = (if seen S i (S.q i % 4096) = true then w (S.q i % 4096) else 0) + _
        rw [if_neg c, Nat.zero_add]
      · rw [vu_n e, beq_eq_false_iff_ne.mpr (fun e' => e e'.symm), Bool.or_false]
    rw [e]
    exact sgm_up 4096 (Nat.mod_lt _ (by omega))
theorem world_fin (hV : VB m bd) (h0 : bd ≠ noB) (hf : frl bd.D bd.kd tn) (h : cI tn bd S S.n 0) : nR S S.n = wN bd 4096 ∧ dR (mms bd.P bd.H bd.D bd.kd) S S.n = wD bd 4096 ∧ fM S S.n = mx1 bd 4096 ∧ fF S S.n = faR bd 4096 := by
  obtain ⟨_, h6, _, _, _, hk⟩ := hV.d4
  have hsl := fun x => seen_Lx (x := x) hV h0 hf h
  refine ⟨?_, ?_, ?_⟩
  · have key : ∀ i, i ≤ S.n → nR S i = sgm (fun x => if seen S i x then 1 else 0) 4096 := by
      intro i
      induction i with
      | zero => intro _; exact (sgm_zero 4096 (fun x _ => by simp [seen])).symm
      | succ i ih => intro hi; rw [nR, ih (by omega), seen_sum (fun _ => 1) i]
    rw [key S.n (Nat.le_refl _), wN]
    refine sgm_congr 4096 (fun x _ => ?_)
    by_cases c : Lx bd x < 8192
    · rw [if_pos c, (hsl x).mpr c]; rfl
    · rw [if_neg c, if_neg (fun e => c ((hsl x).mp e))]
  · have key : ∀ i, i ≤ S.n → dR (mms bd.P bd.H bd.D bd.kd) S i = sgm (fun x => if seen S i x then (if mms bd.P bd.H bd.D bd.kd (fsS bd x) = 0 then 1 else 0) else 0) 4096 := by
      intro i
      induction i with
      | zero => intro _; exact (sgm_zero 4096 (fun x _ => by simp [seen])).symm
      | succ i ih =>
        intro hi
        rw [dR, ih (by omega), seen_sum (fun x => if mms bd.P bd.H bd.D bd.kd (fsS bd x) = 0 then 1 else 0) i]
        cases c : seen S i (S.q i % 4096) with
        | true => rfl
        | false =>
          obtain ⟨_, _, e⟩ := fst_at hV h0 hf h (show i < S.n by omega) c
          have : mms bd.P bd.H bd.D bd.kd (S.q i) = mms bd.P bd.H bd.D bd.kd (fsS bd (S.q i % 4096)) := by
            have e2 := mms_pi (P := bd.P) (H := bd.H) h6 (fun d _ => hk d) hf (fsS bd (S.q i % 4096))
            rw [e] at e2
            exact e2
          rw [this]
    rw [key S.n (Nat.le_refl _), wD]
    refine sgm_congr 4096 (fun x _ => ?_)
    by_cases c : Lx bd x < 8192
    · rw [(hsl x).mpr c, if_pos rfl]
      by_cases c2 : mms bd.P bd.H bd.D bd.kd (fsS bd x) = 0
      · rw [if_pos c2, if_pos (show Lx bd x < 8192 ∧ mms bd.P bd.H bd.D bd.kd (fsS bd x) = 0 from ⟨c, c2⟩)]
      · rw [if_neg c2, if_neg (show ¬ (Lx bd x < 8192 ∧ mms bd.P bd.H bd.D bd.kd (fsS bd x) = 0) from fun e => c2 e.2)]
    · rw [if_neg (fun e => c ((hsl x).mp e)), if_neg (show ¬ (Lx bd x < 8192 ∧ mms bd.P bd.H bd.D bd.kd (fsS bd x) = 0) from fun e => c e.1)]
  · have key : ∀ i, i ≤ S.n → (∀ x, seen S i x = true → Lx bd x + 1 ≤ fM S i) ∧ (fM S i ≠ 0 → seen S i (fF S i) = true ∧ Lx bd (fF S i) + 1 = fM S i ∧ ∀ x, seen S i x = true → Lx bd x + 1 = fM S i → fF S i ≤ x) ∧ (fM S i = 0 → fF S i = 0) := by
      intro i
      induction i with
      | zero => intro _; exact ⟨fun x e => absurd e (by simp [seen]), fun e => absurd rfl e, fun _ => rfl⟩
      | succ i ih =>
        intro hi
        obtain ⟨i1, i2, i3⟩ := ih (by omega)
        rw [fM, fF]
        cases c : seen S i (S.q i % 4096) with
        | true =>
          rw [if_pos rfl, if_pos rfl]
          have hs : ∀ x, seen S (i + 1) x = seen S i x := fun x => by
            rw [seen]
            by_cases e : S.q i % 4096 = x
            · subst e; rw [c, Bool.true_or]
            · rw [beq_eq_false_iff_ne.mpr e, Bool.or_false]
          simp only [hs]
          exact ⟨i1, i2, i3⟩
        | false =>
          obtain ⟨hL, _, _⟩ := fst_at hV h0 hf h (show i < S.n by omega) c
          rw [if_neg (show ¬ false = true by decide), if_neg (show ¬ false = true by decide)]
          have hs : ∀ x, seen S (i + 1) x = true → seen S i x = true ∨ x = S.q i % 4096 := fun x e => by
            rw [seen, Bool.or_eq_true, beq_iff_eq] at e
            exact e.imp id Eq.symm
          have hs2 : seen S (i + 1) (S.q i % 4096) = true := by rw [seen, beq_self_eq_true, Bool.or_true]
          have hs3 : ∀ x, seen S i x = true → seen S (i + 1) x = true := fun x e => by rw [seen, e, Bool.true_or]
          by_cases c2 : fM S i < S.dq i + 1
          · rw [if_pos c2, if_pos c2]
            refine ⟨fun x e => ?_, fun _ => ⟨hs2, by rw [hL], fun x e e2 => ?_⟩, fun e => absurd e (by omega)⟩
            · rcases hs x e with e | rfl
              · have := i1 x e; omega
              · rw [hL]; exact Nat.le_refl _
            · rcases hs x e with e | rfl
              · have := i1 x e; omega
              · exact Nat.le_refl _
          · rw [if_neg c2, if_neg c2]
            have hne : fM S i ≠ 0 := by omega
            obtain ⟨j1, j2, j3⟩ := i2 hne
            refine ⟨fun x e => ?_, fun _ => ?_, fun e => absurd e hne⟩
            · rcases hs x e with e | rfl
              · exact i1 x e
              · rw [hL]; omega
            · by_cases c3 : fM S i = S.dq i + 1 ∧ S.q i % 4096 < fF S i
              · rw [if_pos c3]
                refine ⟨hs2, by rw [hL]; exact c3.1.symm, fun x e e2 => ?_⟩
                rcases hs x e with e | rfl
                · have := j3 x e e2; omega
                · exact Nat.le_refl _
              · rw [if_neg c3]
                refine ⟨hs3 _ j1, j2, fun x e e2 => ?_⟩
                rcases hs x e with e | rfl
                · exact j3 x e e2
                · rw [hL] at e2
                  by_cases c4 : S.q i % 4096 < fF S i
                  · exact absurd ⟨e2.symm, c4⟩ c3
                  · omega
    obtain ⟨k1, k2, k3⟩ := key S.n (Nat.le_refl _)
    obtain ⟨f1, f2, f3⟩ := faR_spec bd 4096
    -- the start is seen
    have hst : seen S S.n (S.q 0 % 4096) = true := (seen_iff _ _).mpr ⟨0, h.1.1, rfl⟩
    have hM : fM S S.n ≠ 0 := by have := k1 _ hst; omega
    obtain ⟨j1, j2, j3⟩ := k2 hM
    have hlt : ∀ x, seen S S.n x = true → x < 4096 := fun x e => by
      obtain ⟨j, _, e⟩ := (seen_iff _ _).mp e
      rw [← e]; exact Nat.mod_lt _ (by omega)
    have a1 := f1 _ (hlt _ j1) ((hsl _).mp j1)
    have hM2 : mx1 bd 4096 ≠ 0 := by omega
    obtain ⟨g1, g2, g3, g4⟩ := f2 hM2
    have a2 := k1 _ ((hsl _).mpr g2)
    have hE : fM S S.n = mx1 bd 4096 := by omega
    refine ⟨hE, ?_⟩
    have b1 := j3 _ ((hsl _).mpr g2) (by omega)
    by_cases c : fF S S.n < faR bd 4096
    · have := g4 _ c ((hsl _).mp j1)
      omega
    · omega
theorem back_fin (hV : VB m bd) (h0 : bd ≠ noB) (hf : frl bd.D bd.kd tn) (h : cI tn bd S S.n 0) : bkR (lgl bd.P bd.H bd.D bd.kd) (cnx tn bd.H bd.D bd.kd) (stx bd % 4096) S S.n = if rgN bd = 8192 then 9000 else rgN bd + 1 := by
  have hn := h.n_le
  have key : ∀ i, i ≤ S.n → (bkR (lgl bd.P bd.H bd.D bd.kd) (cnx tn bd.H bd.D bd.kd) (stx bd % 4096) S i = 9000 ∧ ∀ j, j < i → bef (lgl bd.P bd.H bd.D bd.kd) (cnx tn bd.H bd.D bd.kd) (arT (stx bd % 4096)) (S.q j) = false) ∨ ∃ j, j < i ∧ bef (lgl bd.P bd.H bd.D bd.kd) (cnx tn bd.H bd.D bd.kd) (arT (stx bd % 4096)) (S.q j) = true ∧ bkR (lgl bd.P bd.H bd.D bd.kd) (cnx tn bd.H bd.D bd.kd) (stx bd % 4096) S i = S.dq j + 1 ∧ ∀ j', j' < j → bef (lgl bd.P bd.H bd.D bd.kd) (cnx tn bd.H bd.D bd.kd) (arT (stx bd % 4096)) (S.q j') = false := by
    intro i
    induction i with
    | zero => intro _; exact Or.inl ⟨rfl, fun j hj => absurd hj (by omega)⟩
    | succ i ih =>
      intro hi
      rw [bkR]
      rcases ih (by omega) with ⟨a1, a2⟩ | ⟨j, a1, a2, a3, a4⟩
      · rw [if_pos a1]
        cases c : bef (lgl bd.P bd.H bd.D bd.kd) (cnx tn bd.H bd.D bd.kd) (arT (stx bd % 4096)) (S.q i) with
        | true => exact Or.inr ⟨i, by omega, c, if_pos rfl, a2⟩
        | false =>
          refine Or.inl ⟨if_neg (by decide), fun j hj => ?_⟩
          by_cases e : j = i
          · subst e; exact c
          · exact a2 j (by omega)
      · have hd := h.dq_le j j (Nat.le_refl _) (by omega)
        rw [if_neg (show ¬ bkR (lgl bd.P bd.H bd.D bd.kd) (cnx tn bd.H bd.D bd.kd) (stx bd % 4096) S i = 9000 by rw [a3]; omega)]
        exact Or.inr ⟨j, by omega, a2, a3, a4⟩
  rcases key S.n (Nat.le_refl _) with ⟨a1, a2⟩ | ⟨j, a1, a2, a3, a4⟩
  · have := h.none (T := bef (lgl bd.P bd.H bd.D bd.kd) (cnx tn bd.H bd.D bd.kd) (arT (stx bd % 4096))) a2
    rw [cRg hV h0 hf] at this
    rw [a1, if_pos this]
  · have := h.least (T := bef (lgl bd.P bd.H bd.D bd.kd) (cnx tn bd.H bd.D bd.kd) (arT (stx bd % 4096))) a1 a2 (fun j' b1 b2 => by
      have : j ≤ j' := by
        by_cases c : j' < j
        · rw [a4 j' c] at b2; exact absurd b2 (by decide)
        · omega
      exact h.2.2.2.2.2.1 j j' this b1)
    rw [cRg hV h0 hf] at this
    have hd := h.dq_le j j (Nat.le_refl _) a1
    rw [a3, if_neg (show ¬ rgN bd = 8192 by omega), this]
end Wd
