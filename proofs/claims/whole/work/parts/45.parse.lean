/-! a board read from bytes -/
/-- the byte at i; 256 behind the end -/
def bt (s : AS) (i : Nat) : Nat := if i < s.tl then s.tb i else 256
def fig (c : Nat) : Bool := decide (48 ≤ c) && decide (c ≤ 57)
/-- a fault and its place, or a number and where it ends -/
def rng (p lo hi v q : Nat) : (Nat × Nat) ⊕ (Nat × Nat) := if lo ≤ v ∧ v ≤ hi then .inr (v, q) else .inl (2, p)
def pNum (s : AS) (p lo hi : Nat) : (Nat × Nat) ⊕ (Nat × Nat) :=
  if fig (bt s p) then (if fig (bt s (p + 1)) then (if fig (bt s (p + 2)) then .inl (1, p) else rng p lo hi (10 * (bt s p - 48) + (bt s (p + 1) - 48)) (p + 2)) else rng p lo hi (bt s p - 48) (p + 1)) else .inl (1, p)
def pSg (s : AS) (c p : Nat) : (Nat × Nat) ⊕ Nat := if bt s p = c then .inr (p + 1) else .inl (1, p)
def srt (c : Nat) : Nat := if c = 112 then 1 else if c = 115 then 2 else if c = 104 then 3 else if c = 103 then 4 else if c = 102 then 5 else 0
def addD (b : AB) (k v : Nat) : AB := (b.P, b.H, b.D + 1, b.M, va_up b.kd b.D k, va_up b.pg b.D v)
def pDisc (s : AS) (b : AB) (p : Nat) : (Nat × Nat) ⊕ (AB × Nat) :=
  if srt (bt s p) = 0 then .inl (1, p) else if b.D = 6 then .inl (3, p) else
    match pNum s (p + 1) 0 (b.P - 1) with
    | .inl e => .inl e
    | .inr (v, q) => match pSg s 59 q with
      | .inl e => .inl e
      | .inr q' => .inr (addD b (srt (bt s p)) v, q')
def pDiscs (s : AS) : Nat → AB → Nat → (Nat × Nat) ⊕ AB
  | 0, b, _ => .inr b
  | n + 1, b, p => match pDisc s b p with
    | .inl e => .inl e
    | .inr (b', q) => if q < s.tl then pDiscs s n b' q else .inr b'
/-- pegs and high, and where they end -/
def pLaw (s : AS) : (Nat × Nat) ⊕ (Nat × Nat × Nat) :=
  match pSg s 116 0 with
  | .inl e => .inl e
  | .inr p1 => match pNum s p1 3 4 with
    | .inl e => .inl e
    | .inr (P, p2) => match pSg s 44 p2 with
      | .inl e => .inl e
      | .inr p3 => match pNum s p3 1 6 with
        | .inl e => .inl e
        | .inr (H, p4) => match pSg s 59 p4 with
          | .inl e => .inl e
          | .inr p5 => .inr (P, H, p5)
def nwB (P H : Nat) : AB := (P, H, 0, 0, fun _ => 0, fun _ => 0)
def pBoard (s : AS) : (Nat × Nat) ⊕ AB := match pLaw s with
  | .inl e => .inl e
  | .inr (P, H, p) => pDiscs s 7 (nwB P H) p
def AS.prs (s : AS) (fl : Int32) (b : AB) (n : Nat) : AS := (s.1, s.2.1, s.2.2.1, s.found, 0, s.tb, fl, b, n, s.ac, s.im, s.trl, s.tr)
def o_board (s : AS) : Int32 × AS := match pBoard s with
  | .inl (w, p) => (-1000100 - nI p, s.prs (nI w) s.bd s.na)
  | .inr b => (nI b.D, s.prs s.flt b 0)
theorem bt_lt {s : AS} {i : Nat} (h : bt s i ≠ 256) : i < s.tl := by
  unfold bt at h
  by_cases c : i < s.tl
  · exact c
  · rw [if_neg c] at h; exact absurd rfl h
theorem fig_ne {c : Nat} (h : fig c = true) : c ≠ 256 := by
  intro e; subst e; exact absurd h (by decide)
/-- what a number that is read says -/
theorem pNum_inr {s : AS} {p lo hi v q : Nat} (h : pNum s p lo hi = .inr (v, q)) : lo ≤ v ∧ v ≤ hi ∧ p < q ∧ q ≤ p + 2 ∧ q ≤ s.tl := by
  unfold pNum at h
  split at h
  · next c1 =>
    have h1 := bt_lt (fig_ne c1)
    split at h
    · next c2 =>
      have h2 := bt_lt (fig_ne c2)
      split at h
      · exact absurd h (by simp)
      · unfold rng at h
        split at h
        · next c =>
          obtain ⟨rfl, rfl⟩ := Prod.mk.inj (Sum.inr.inj h)
          exact ⟨c.1, c.2, by omega, by omega, by omega⟩
        · exact absurd h (by simp)
    · unfold rng at h
      split at h
      · next c =>
        obtain ⟨rfl, rfl⟩ := Prod.mk.inj (Sum.inr.inj h)
        exact ⟨c.1, c.2, by omega, by omega, by omega⟩
      · exact absurd h (by simp)
  · exact absurd h (by simp)
theorem rng_inl {p lo hi v q w pl : Nat} (h : rng p lo hi v q = .inl (w, pl)) : 1 ≤ w ∧ w ≤ 3 ∧ pl = p := by
  unfold rng at h
  split at h
  · exact absurd h (by simp)
  · obtain ⟨rfl, rfl⟩ := Prod.mk.inj (Sum.inl.inj h); exact ⟨by omega, by omega, rfl⟩
theorem pNum_inl {s : AS} {p lo hi w pl : Nat} (h : pNum s p lo hi = .inl (w, pl)) : 1 ≤ w ∧ w ≤ 3 ∧ pl = p := by
  unfold pNum at h
  split at h
  · split at h
    · split at h
      · obtain ⟨rfl, rfl⟩ := Prod.mk.inj (Sum.inl.inj h); exact ⟨by omega, by omega, rfl⟩
      · exact rng_inl h
    · exact rng_inl h
  · obtain ⟨rfl, rfl⟩ := Prod.mk.inj (Sum.inl.inj h); exact ⟨by omega, by omega, rfl⟩
theorem pSg_inr {s : AS} {c p q : Nat} (hc : c ≠ 256) (h : pSg s c p = .inr q) : bt s p = c ∧ q = p + 1 ∧ q ≤ s.tl := by
  unfold pSg at h
  split at h
  · next e => obtain rfl := Sum.inr.inj h; exact ⟨e, rfl, bt_lt (by rw [e]; exact hc)⟩
  · exact absurd h (by simp)
theorem pSg_inl {s : AS} {c p w pl : Nat} (h : pSg s c p = .inl (w, pl)) : w = 1 ∧ pl = p ∧ bt s p ≠ c := by
  unfold pSg at h
  split at h
  · exact absurd h (by simp)
  · next e => obtain ⟨rfl, rfl⟩ := Prod.mk.inj (Sum.inl.inj h); exact ⟨rfl, rfl, e⟩
theorem srt_le (c : Nat) : srt c ≤ 5 := by unfold srt; repeat' split <;> try omega
theorem srt_ne {s : AS} {p : Nat} (h : srt (bt s p) ≠ 0) : p < s.tl := bt_lt (fun e => h (by rw [e]; decide))
theorem pDisc_inr {s : AS} {b b' : AB} {p q : Nat} (h : pDisc s b p = .inr (b', q)) : b.D ≠ 6 ∧ p < q ∧ q ≤ s.tl ∧ srt (bt s p) ≠ 0 ∧ ∃ v, (v = 0 ∨ v ≤ b.P - 1) ∧ b' = addD b (srt (bt s p)) v := by
  unfold pDisc at h
  split at h
  · exact absurd h (by simp)
  · next c1 =>
    split at h
    · exact absurd h (by simp)
    · next c2 =>
      split at h
      · exact absurd h (by simp)
      · next v q1 e1 =>
        split at h
        · exact absurd h (by simp)
        · next q2 e2 =>
          obtain ⟨rfl, rfl⟩ := Prod.mk.inj (Sum.inr.inj h)
          obtain ⟨n1, n2, n3, n4, n5⟩ := pNum_inr e1
          obtain ⟨s1, s2, s3⟩ := pSg_inr (by decide) e2
          exact ⟨c2, by omega, s3, c1, v, Or.inr n2, rfl⟩
theorem pDisc_inl {s : AS} {b : AB} {p w pl : Nat} (hp : p ≤ s.tl) (h : pDisc s b p = .inl (w, pl)) : 1 ≤ w ∧ w ≤ 3 ∧ pl ≤ s.tl := by
  unfold pDisc at h
  split at h
  · obtain ⟨rfl, rfl⟩ := Prod.mk.inj (Sum.inl.inj h); exact ⟨by omega, by omega, hp⟩
  · next c1 =>
    have hp' := srt_ne c1
    split at h
    · obtain ⟨rfl, rfl⟩ := Prod.mk.inj (Sum.inl.inj h); exact ⟨by omega, by omega, hp⟩
    · split at h
      · next e1 =>
        obtain rfl := Sum.inl.inj h
        obtain ⟨a1, a2, rfl⟩ := pNum_inl e1
        exact ⟨a1, a2, hp'⟩
      · next v q1 e1 =>
        obtain ⟨n1, n2, n3, n4, n5⟩ := pNum_inr e1
        split at h
        · next e2 =>
          obtain rfl := Sum.inl.inj h
          obtain ⟨rfl, rfl, _⟩ := pSg_inl e2
          exact ⟨by omega, by omega, n5⟩
        · exact absurd h (by simp)
theorem pLaw_inr {s : AS} {P H p : Nat} (h : pLaw s = .inr (P, H, p)) : (P = 3 ∨ P = 4) ∧ 1 ≤ H ∧ H ≤ 6 ∧ p ≤ s.tl := by
  unfold pLaw at h
  split at h
  · exact absurd h (by simp)
  · split at h
    · exact absurd h (by simp)
    · next e2 =>
      split at h
      · exact absurd h (by simp)
      · split at h
        · exact absurd h (by simp)
        · next e4 =>
          split at h
          · exact absurd h (by simp)
          · next e5 =>
            obtain ⟨rfl, h2⟩ := Prod.mk.inj (Sum.inr.inj h)
            obtain ⟨rfl, rfl⟩ := Prod.mk.inj h2
            obtain ⟨a1, a2, _⟩ := pNum_inr e2
            obtain ⟨b1, b2, _⟩ := pNum_inr e4
            obtain ⟨_, _, c3⟩ := pSg_inr (by decide) e5
            exact ⟨by omega, b1, b2, c3⟩
theorem pLaw_inl {s : AS} {w pl : Nat} (h : pLaw s = .inl (w, pl)) : 1 ≤ w ∧ w ≤ 3 ∧ pl ≤ s.tl := by
  unfold pLaw at h
  split at h
  · next e1 =>
    obtain rfl := Sum.inl.inj h
    obtain ⟨rfl, rfl, _⟩ := pSg_inl e1
    exact ⟨by omega, by omega, Nat.zero_le _⟩
  · next e1 =>
    obtain ⟨_, _, a1⟩ := pSg_inr (by decide) e1
    split at h
    · next e2 =>
      obtain rfl := Sum.inl.inj h
      obtain ⟨b1, b2, rfl⟩ := pNum_inl e2
      exact ⟨b1, b2, a1⟩
    · next e2 =>
      obtain ⟨_, _, _, _, a2⟩ := pNum_inr e2
      split at h
      · next e3 =>
        obtain rfl := Sum.inl.inj h
        obtain ⟨rfl, rfl, _⟩ := pSg_inl e3
        exact ⟨by omega, by omega, a2⟩
      · next e3 =>
        obtain ⟨_, _, a3⟩ := pSg_inr (by decide) e3
        split at h
        · next e4 =>
          obtain rfl := Sum.inl.inj h
          obtain ⟨b1, b2, rfl⟩ := pNum_inl e4
          exact ⟨b1, b2, a3⟩
        · next e4 =>
          obtain ⟨_, _, _, _, a4⟩ := pNum_inr e4
          split at h
          · next e5 =>
            obtain rfl := Sum.inl.inj h
            obtain ⟨rfl, rfl, _⟩ := pSg_inl e5
            exact ⟨by omega, by omega, a4⟩
          · exact absurd h (by simp)
/-- a board under way -/
def VP (P H n : Nat) (b : AB) : Prop := b.P = P ∧ b.H = H ∧ b.D = n ∧ b.M = 0 ∧ n ≤ 6 ∧ (∀ d, d < n → 1 ≤ b.kd d ∧ b.kd d ≤ 5 ∧ b.pg d < P) ∧ ∀ d, n ≤ d → b.kd d = 0 ∧ b.pg d = 0
theorem VP.add {P H n v k : Nat} {b : AB} (h : VP P H n b) (hn : n ≠ 6) (hk : 1 ≤ k ∧ k ≤ 5) (hv : v < P) : VP P H (n + 1) (addD b k v) := by
  obtain ⟨h1, h2, h3, h4, h5, h6, h7⟩ := h
  refine ⟨h1, h2, by show b.D + 1 = _; omega, h4, by omega, fun d hd => ?_, fun d hd => ?_⟩
  · show 1 ≤ va_up b.kd b.D k d ∧ va_up b.kd b.D k d ≤ 5 ∧ va_up b.pg b.D v d < P
    rw [h3]
    by_cases e : d = n
    · subst e; rw [vup_s, vup_s]; exact ⟨hk.1, hk.2, hv⟩
    · rw [vup_n e, vup_n e]; exact h6 d (by omega)
  · show va_up b.kd b.D k d = 0 ∧ va_up b.pg b.D v d = 0
    rw [h3, vup_n (by omega), vup_n (by omega)]; exact h7 d (by omega)
theorem pDiscs_VP {s : AS} {P H : Nat} (hP : P = 3 ∨ P = 4) : ∀ (r n : Nat) (b : AB) (p : Nat), VP P H n b → ∀ b', pDiscs s r b p = .inr b' → r ≠ 0 → ∃ n', n + 1 ≤ n' ∧ VP P H n' b' := by
  intro r
  induction r with
  | zero => intro n b p _ b' _ h; exact absurd rfl h
  | succ r ih =>
    intro n b p hb b' h _
    rw [pDiscs] at h
    split at h
    · exact absurd h (by simp)
    · next b2 q e =>
      obtain ⟨a1, a2, a3, a4, v, a5, rfl⟩ := pDisc_inr e
      have hb2 := hb.add (k := srt (bt s p)) (v := v) (by have := hb.2.2.1; omega) ⟨by omega, srt_le _⟩ (by have := hb.1; omega)
      split at h
      · by_cases c : r = 0
        · subst c
          rw [pDiscs] at h
          obtain rfl := Sum.inr.inj h
          exact ⟨n + 1, by omega, hb2⟩
        · obtain ⟨n', g1, g2⟩ := ih (n + 1) _ q hb2 b' h c
          exact ⟨n', by omega, g2⟩
      · obtain rfl := Sum.inr.inj h
        exact ⟨n + 1, by omega, hb2⟩
theorem VP.new (P H : Nat) : VP P H 0 (nwB P H) := ⟨rfl, rfl, rfl, rfl, by omega, fun d hd => absurd hd (by omega), fun _ _ => ⟨rfl, rfl⟩⟩
theorem pBoard_VB {s : AS} {b : AB} (h : pBoard s = .inr b) : VB 0 b ∧ b ≠ noB := by
  unfold pBoard at h
  split at h
  · exact absurd h (by simp)
  · next P H p e =>
    obtain ⟨a1, a2, a3, _⟩ := pLaw_inr e
    obtain ⟨n, n1, n2, n3, n4, n5, n6, n7, n8⟩ := pDiscs_VP a1 7 0 _ p (VP.new P H) b h (by omega)
    refine ⟨Or.inr ⟨by omega, by omega, by omega, by omega, by omega, by omega, fun d hd => ?_, fun d hd => n8 d (by omega)⟩, fun e => ?_⟩
    · obtain ⟨g1, g2, g3⟩ := n7 d (by omega)
      exact ⟨g1, g2, by omega⟩
    · subst e; have : (0 : Nat) = P := n2; omega
