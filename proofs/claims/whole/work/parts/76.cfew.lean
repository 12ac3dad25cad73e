/-! the class: the whole search, the fewest moves -/
section CSq
variable {N n p : Nat} {τ : Hp} {kn f q st lm ah : Nat → Int32} {tn : Bool} {gl go : Nat → Int32} {P H D : Nat} {kd : Nat → Nat} {a0 s0 : Nat} {S : BS}
theorem sp_30 (h : CX N τ n p tn gl go P H D kd a0) : ∀ (r t i : Nat) (S : BS) (kn f q st lm ah : Nat → Int32), i + r = 8192 → r < t → BI (lgl P H D kd) (cnx tn H D kd) (CV tn P D) s0 S i 0 → SR f q st lm ah S → KN P H D kd kn → NT (mms P H D kd) f S i → f 10 = bkI (bkR (lgl P H D kd) (cnx tn H D kd) a0 S i) → ∃ kn' f' q' st' lm' ah' S', L_X6_spread_30 N p n t (HS τ n p kn f q st lm ah) (nI i) = some (HS τ n p kn' f' q' st' lm' ah') ∧ BI (lgl P H D kd) (cnx tn H D kd) (CV tn P D) s0 S' S'.n 0 ∧ SR f' q' st' lm' ah' S' ∧ KN P H D kd kn' ∧ NT (mms P H D kd) f' S' S'.n ∧ f' 10 = bkI (bkR (lgl P H D kd) (cnx tn H D kd) a0 S' S'.n) := by
  intro r
  induction r with
  | zero =>
    intro t i S kn f q st lm ah hi ht hI hS hK hN hb
    obtain ⟨t, rfl⟩ : ∃ k, t = k + 1 := ⟨t - 1, by omega⟩
    have hn := hI.n_le
    have hin := hI.1.2.2.2
    obtain rfl : i = 8192 := by omega
    have e : S.n = 8192 := by omega
    refine ⟨kn, f, q, st, lm, ah, S, by rw [L_X6_spread_30.eq_2, if_pos (show (8192 : Int32) ≤ nI 8192 by decide +kernel)], ?_, hS, hK, ?_, ?_⟩
    · rw [e]; exact hI
    · rw [e]; exact hN
    · rw [e]; exact hb
  | succ r ih =>
    intro t i S kn f q st lm ah hi ht hI hS hK hN hb
    obtain ⟨t, rfl⟩ : ∃ k, t = k + 1 := ⟨t - 1, by omega⟩
    have hn := hI.n_le
    have hin := hI.1.2.2.2
    rw [L_X6_spread_30.eq_2, if_neg (show ¬ (8192 : Int32) ≤ nI i by rw [show (8192 : Int32) = nI 8192 from rfl, nI_leI (by omega) (by omega)]; omega), s_i h (by omega), hS.1]
    simp only [Option.bind_some]
    by_cases c : i = S.n
    · subst c
      rw [if_pos (nI_le (Nat.le_refl _) (by omega))]
      exact ⟨kn, f, q, st, lm, ah, S, rfl, hI, hS, hK, hN, hb⟩
    · have hi' : i < S.n := by omega
      obtain ⟨q1, q2, q3⟩ := hI.2.1 i hi'
      rw [if_neg (nI_ge hi' (by omega)), s_r1 h]
      simp only [Option.bind_some]
      rw [s_aq h (by omega), hS.2.1 i hi']
      simp only [Option.bind_some]
      rw [and8191 q2]
      have hNE : NE N (HS τ n p kn f q st lm ah) n tn gl kn := ⟨h.2.1, by rw [HS_o (by have := h.1; omega)]; exact h.2.2.2.1, by rw [HS_o (by have := h.1; omega)]; exact h.2.2.2.2.1, HS_kn⟩
      obtain ⟨kn1, k1, k2⟩ := movesAt_ok hNE h.2.2.2.2.2.1 hK q2
      rw [k1, HS_ukn]
      simp only [Option.bind_some]
      obtain ⟨f1, n1, n2, n3, n4⟩ := note_ok (kn := kn1) h hI hi' hS hN
      rw [n1]
      simp only [Option.bind_some]
      have hS1 : SR f1 q st lm ah S := ⟨by rw [n3]; exact hS.1, hS.2⟩
      have hbv : bkR (lgl P H D kd) (cnx tn H D kd) a0 S i ≤ 9000 := by
        have : ∀ j, j ≤ S.n → bkR (lgl P H D kd) (cnx tn H D kd) a0 S j ≤ 9000 := by
          intro j
          induction j with
          | zero => intro _; exact Nat.le_refl _
          | succ j ih =>
            intro hj
            have hd := hI.dq_le j j (Nat.le_refl _) (by omega)
            have := ih (by omega)
            rw [bkR]
            split
            · split <;> omega
            · exact this
        exact this i (by omega)
      obtain ⟨f2, q2', st2, lm2, ah2, S2, g1, g2, g3, g4, g5, g6⟩ := sp_76 (v3 := nI i) (s0 := s0) h k2 q2 16 fu S f1 q st lm ah _ (Nat.le_refl _) (by decide) hI hi' rfl hS1 hbv (by rw [n4]; exact hb)
      rw [show 16 - 16 = 0 from rfl, nI_0] at g1
      rw [g1]
      simp only [Option.bind_some]
      rw [nI_1]
      have hx := ext_all g4 (mms P H D kd) (lgl P H D kd) (cnx tn H D kd) a0
      have hNT2 : NT (mms P H D kd) f2 S2 (i + 1) := by
        obtain ⟨_, x2, x3, x4, x5, _⟩ := hx (i + 1) (by omega)
        unfold NT
        rw [x2, x3, x4, x5, g5 6 (by omega) (by omega), g5 7 (by omega) (by omega), g5 8 (by omega) (by omega), g5 9 (by omega) (by omega)]
        exact n2
      have hb2 : f2 10 = bkI (bkR (lgl P H D kd) (cnx tn H D kd) a0 S2 (i + 1)) := by
        obtain ⟨_, _, _, _, _, x6⟩ := hx (i + 1) (by omega)
        rw [g6, x6, bkR, hitT_bef]
      exact ih t (i + 1) S2 kn1 f2 q2' st2 lm2 ah2 (by omega) (by omega) (g2.next (by have := g4.1; omega)) g3 k2 hNT2 hb2
/-- the search from the start on -/
theorem spread_ok (h : CX N τ n p tn gl go P H D kd a0) (hK : KN P H D kd kn) (hs0 : s0 < 8192) (hV : CV tn P D s0) (hst : m_X4_start N (HS τ n p kn f q st lm ah) n = some (nI s0)) (hs : ∀ x, x < 8192 → st x = -1) (h6 : f 6 = 0 ∧ f 7 = -1 ∧ f 8 = 0 ∧ f 9 = 0 ∧ f 10 = -1000000) : ∃ kn' f' q' st' lm' ah' S, m_X6_spread N (HS τ n p kn f q st lm ah) p n = some (HS τ n p kn' f' q' st' lm' ah') ∧ BI (lgl P H D kd) (cnx tn H D kd) (CV tn P D) s0 S S.n 0 ∧ SR f' q' st' lm' ah' S ∧ KN P H D kd kn' ∧ NT (mms P H D kd) f' S S.n ∧ f' 10 = bkI (bkR (lgl P H D kd) (cnx tn H D kd) a0 S S.n) := by
  unfold m_X6_spread
  rw [s_rv h]
  simp only [Option.bind_some]
  rw [hst]
  simp only [Option.bind_some]
  rw [s_r2 h, and8191 hs0]
  simp only [Option.bind_some]
  rw [s_sst h hs0]
  simp only [Option.bind_some]
  rw [s_r1 h]
  simp only [Option.bind_some]
  have e0 := s_sq h (kn := kn) (f := f) (q := q) (st := upd st s0 0) (lm := lm) (ah := ah) (k := 0) (v := nI s0) (by omega)
  rw [nI_0] at e0
  rw [e0]
  simp only [Option.bind_some]
  rw [s_p h (by omega)]
  simp only [Option.bind_some]
  have hSR : SR (upd f 5 1) (upd q 0 (nI s0)) (upd st s0 0) lm ah (bs0 s0) := by
    refine ⟨by rw [upd_s]; rfl, fun j hj => ?_, fun x hx => ?_, fun j j1 j2 => ?_⟩
    · have hj : j < 1 := hj
      obtain rfl : j = 0 := by omega
      rw [upd_s]; rfl
    · unfold stI
      show _ = match vu (fun _ => none) s0 (some 0) x with
        | none => -1
        | some j => nI 0
      by_cases c : x = s0
      · subst c; rw [upd_s, vu_s]; rfl
      · rw [upd_n c, vu_n c, hs x hx]
    · exact absurd (show j < 1 from j2) (by omega)
  obtain ⟨kn', f', q', st', lm', ah', S, k1, k2, k3, k4, k5, k6⟩ := sp_30 (s0 := s0) h 8192 fu 0 (bs0 s0) kn _ _ _ lm ah (by omega) (by decide) (BI.start hs0 hV) hSR hK ⟨by rw [upd_n (by decide), h6.1]; rfl, by rw [upd_n (by decide), h6.2.1]; rfl, by rw [upd_n (by decide), h6.2.2.1]; rfl, by rw [upd_n (by decide), h6.2.2.2.1]; rfl⟩ (by rw [upd_n (by decide), h6.2.2.2.2]; rfl)
  rw [nI_0] at k1
  rw [k1]
  exact ⟨kn', f', q', st', lm', ah', S, rfl, k2, k3, k4, k5, k6⟩
end CSq
/-- a search in any heap -/
def SE (N : Nat) (τ : Hp) (p : Nat) (go f q st lm ah : Nat → Int32) : Prop := p + 5 < N ∧ τ p = sObj p f ∧ τ (p + 1) = bC go ∧ τ (p + 2) = iR q ∧ τ (p + 3) = iR st ∧ τ (p + 4) = iR lm ∧ τ (p + 5) = iR ah
section CFw
variable {N p : Nat} {τ : Hp} {go f q st lm ah : Nat → Int32} {tn : Bool} {bd : AB} {S : BS} {m : Nat}
theorem soonest_ok (h : SE N τ p go f q st lm ah) (hS : SR f q st lm ah S) {mv : Nat → Nat → Bool} {nx : Nat → Nat → Nat} {V : Nat → Prop} {s0 : Nat} (hI : BI mv nx V s0 S S.n 0) {g : Nat} (hg : g < 4096) : ∃ x, m_X6_soonestOf N τ p (nI g) = some (nI x) ∧ (x = g ∨ x = g + 4096) ∧ (S.ix x = none → S.ix g = none ∧ S.ix (g + 4096) = none) ∧ ∀ j, S.ix x = some j → ∀ j', j' < S.n → S.q j' % 4096 = g → S.dq j ≤ S.dq j' := by
  obtain ⟨h1, h2, _, _, h5, _, _⟩ := h
  have hn := hI.n_le
  unfold m_X6_soonestOf
  rw [rv_of (by omega) h2, gR_of (x := p + 3) (by omega) h2 rfl]
  simp only [Option.bind_some]
  rw [show nI g ||| 4096 = nI (g ||| 4096) from ni_or g 4096, or4096 hg, aI_of (by omega) h5 (show g < 8192 by omega) (by omega), aI_of (by omega) h5 (show g + 4096 < 8192 by omega) (by omega), hS.2.2.1 g (by omega), hS.2.2.1 (g + 4096) (by omega)]
  simp only [Option.bind_some]
  have hq : ∀ j', j' < S.n → S.q j' % 4096 = g → S.ix g = some j' ∨ S.ix (g + 4096) = some j' := fun j' a1 a2 => by
    obtain ⟨b1, b2, _⟩ := hI.2.1 j' a1
    rcases (show S.q j' = g ∨ S.q j' = g + 4096 by omega) with e | e
    · left; rw [← e]; exact b1
    · right; rw [← e]; exact b1
  unfold stI
  cases e2 : S.ix (g + 4096) with
  | none =>
    show ∃ x, (((if (-1 : Int32) = -1 then some 0 else _) : Option Int32).bind _) = _ ∧ _
    rw [if_pos rfl]
    simp only [Option.bind_some, if_true]
    refine ⟨g, rfl, Or.inl rfl, fun e => ⟨e, trivial⟩, fun j ej j' a1 a2 => ?_⟩
    rcases hq j' a1 a2 with e | e
    · rw [ej] at e; obtain rfl := Option.some.inj e; exact Nat.le_refl _
    · rw [e2] at e; exact absurd e (by simp)
  | some j2 =>
    have hj2 := (hI.2.2.1 _ _ e2).1
    have d2 := hI.dq_le j2 j2 (Nat.le_refl _) hj2
    cases e1 : S.ix g with
    | none =>
      show ∃ x, (((if nI (S.dq j2) = -1 then some 0 else if (-1 : Int32) = -1 then some 1 else _) : Option Int32).bind _) = _ ∧ _
      rw [if_neg (nI_n1 (by omega)), if_pos rfl]
      simp only [Option.bind_some]
      rw [if_neg (show ¬ (1 : Int32) = 0 by decide +kernel)]
      refine ⟨g + 4096, rfl, Or.inr rfl, fun e => by rw [e2] at e; exact absurd e (by simp), fun j ej j' a1 a2 => ?_⟩
      rcases hq j' a1 a2 with e | e
      · rw [e1] at e; exact absurd e (by simp)
      · rw [ej] at e; obtain rfl := Option.some.inj e; exact Nat.le_refl _
    | some j1 =>
      have hj1 := (hI.2.2.1 _ _ e1).1
      have d1 := hI.dq_le j1 j1 (Nat.le_refl _) hj1
      show ∃ x, (((if nI (S.dq j2) = -1 then some 0 else if nI (S.dq j1) = -1 then some 1 else if nI (S.dq j1) ≤ nI (S.dq j2) then some 0 else some 1) : Option Int32).bind _) = _ ∧ _
      rw [if_neg (nI_n1 (by omega)), if_neg (nI_n1 (by omega))]
      by_cases c : S.dq j1 ≤ S.dq j2
      · rw [if_pos (show nI (S.dq j1) ≤ nI (S.dq j2) by rw [nI_leI (by omega) (by omega)]; exact c)]
        simp only [Option.bind_some, if_true]
        refine ⟨g, rfl, Or.inl rfl, fun e => by rw [e1] at e; exact absurd e (by simp), fun j ej j' a1 a2 => ?_⟩
        rw [e1] at ej
        obtain rfl := Option.some.inj ej
        rcases hq j' a1 a2 with e | e
        · rw [e1] at e; obtain rfl := Option.some.inj e; exact Nat.le_refl _
        · rw [e2] at e; obtain rfl := Option.some.inj e; exact c
      · rw [if_neg (show ¬ nI (S.dq j1) ≤ nI (S.dq j2) by rw [nI_leI (by omega) (by omega)]; exact c)]
        simp only [Option.bind_some]
        rw [if_neg (show ¬ (1 : Int32) = 0 by decide +kernel)]
        refine ⟨g + 4096, rfl, Or.inr rfl, fun e => by rw [e2] at e; exact absurd e (by simp), fun j ej j' a1 a2 => ?_⟩
        rw [e2] at ej
        obtain rfl := Option.some.inj ej
        rcases hq j' a1 a2 with e | e
        · rw [e1] at e; obtain rfl := Option.some.inj e; omega
        · rw [e2] at e; obtain rfl := Option.some.inj e; exact Nat.le_refl _
/-- back along the parents -/
theorem few_46 (h : SE N τ p go f q st lm ah) (hS : SR f q st lm ah S) {mv : Nat → Nat → Bool} {nx : Nat → Nat → Nat} {V : Nat → Prop} {s0 : Nat} (hI : BI mv nx V s0 S S.n 0) {T : Nat → Bool} {n : Nat} (hn : lsN mv nx T s0 = n) (hn2 : n < 8192) {k : Nat} (hk : k < n) : ∀ (r t i : Nat), i = k + 1 + r → i ≤ n → r < t → L_X6_fewest_46 N τ p (nI k) t (nI (fsx mv nx T n s0 i)) (nI (i - 1)) = some (nI (fsx mv nx T n s0 (k + 1))) := by
  obtain ⟨h1, h2, _, _, _, _, h7⟩ := h
  intro r
  induction r with
  | zero =>
    intro t i hi hin ht
    obtain ⟨t, rfl⟩ : ∃ k, t = k + 1 := ⟨t - 1, by omega⟩
    obtain rfl : i = k + 1 := by omega
    rw [L_X6_fewest_46.eq_2, if_pos (nI_le (by omega) (by omega))]
  | succ r ih =>
    intro t i hi hin ht
    obtain ⟨t, rfl⟩ : ∃ k, t = k + 1 := ⟨t - 1, by omega⟩
    obtain ⟨j, j1, j2, j3, j4, j5, j6⟩ := hI.path hn hn2 i hin
    obtain ⟨p1, p2, p3⟩ := j5 (by omega)
    have hq2 := (hI.2.1 j j1).2.1
    rw [L_X6_fewest_46.eq_2, if_neg (nI_ge (by omega) (by omega)), gR_of (x := p + 5) (by omega) h2 rfl]
    simp only [Option.bind_some]
    rw [← j3, aI_of (by omega) h7 hq2 (by omega), (hS.2.2.2 j p1 j1).2, p2]
    simp only [Option.bind_some]
    rw [show nI (i - 1) + (-1) = nI (i - 1 - 1) by rw [← Int32.sub_eq_add_neg, show (1 : Int32) = nI 1 from rfl, pk_sub (by omega)]]
    exact ih t (i - 1) (by omega) (by omega) (by omega)
theorem fewest_ok (h : SE N τ p go f q st lm ah) (hS : SR f q st lm ah S) (hV : VB m bd) (h0 : bd ≠ noB) (hf : frl bd.D bd.kd tn) (hI : cI tn bd S S.n 0) {g : Nat} (hg : g < 4096) (k : Int32) : m_X6_fewest N τ p (nI g) k = some (o_lst bd g k) := by
  have hn := hI.n_le
  obtain ⟨x, x1, x2, x3, x4⟩ := soonest_ok h hS hI hg
  have hSE := h
  obtain ⟨h1, h2, _, _, h5, h6, _⟩ := h
  have hx8 : x < 8192 := by omega
  unfold m_X6_fewest o_lst
  rw [rv_of (by omega) h2, and4095 (by omega), Nat.mod_eq_of_lt hg, x1, gR_of (x := p + 3) (by omega) h2 rfl]
  simp only [Option.bind_some]
  rw [aI_of (by omega) h5 hx8 (by omega), hS.2.2.1 x hx8]
  simp only [Option.bind_some]
  have hL : lsN (lgl bd.P bd.H bd.D bd.kd) (bhd bd.H bd.D bd.kd) (arT g) (stx bd) = lsN (lgl bd.P bd.H bd.D bd.kd) (cnx tn bd.H bd.D bd.kd) (arT g) (cpi tn (stx bd)) := (cLs hV h0 hf g).symm
  have hix : ∀ y, y < 8192 → S.ix y = none → ∀ j, j < S.n → S.q j ≠ y := fun y _ e j hj e' => by
    have := (hI.2.1 j hj).1
    rw [e', e] at this
    exact absurd this (by simp)
  unfold stI
  cases e : S.ix x with
  | none =>
    obtain ⟨n1, n2⟩ := x3 e
    have : lsN (lgl bd.P bd.H bd.D bd.kd) (cnx tn bd.H bd.D bd.kd) (arT g) (cpi tn (stx bd)) = 8192 := hI.none (fun j hj => by
      apply Bool.eq_false_iff.mpr
      intro c
      rcases (arT_iff hg (hI.2.1 j hj).2.1).mp c with e' | e'
      · exact hix g (by omega) n1 j hj e'
      · exact hix (g + 4096) (by omega) n2 j hj e')
    rw [hL, if_pos this]
    show (if (-1 : Int32) = -1 then _ else _) = _
    rw [if_pos rfl]
  | some j =>
    obtain ⟨j1, j2⟩ := hI.2.2.1 _ _ e
    have hd := hI.dq_le j j (Nat.le_refl _) j1
    have hls : lsN (lgl bd.P bd.H bd.D bd.kd) (cnx tn bd.H bd.D bd.kd) (arT g) (cpi tn (stx bd)) = S.dq j := hI.least j1 (by rw [j2]; exact (arT_iff hg hx8).mpr x2) (fun j' a1 a2 => x4 j e j' a1 (by unfold arT at a2; exact eq_of_beq a2))
    rw [hL, hls, if_neg (show ¬ S.dq j = 8192 by omega)]
    show (if nI (S.dq j) = -1 then _ else _) = _
    rw [if_neg (nI_n1 (by omega))]
    by_cases c1 : k < nI (S.dq j)
    · rw [if_pos c1, if_pos c1]
      by_cases c2 : 0 ≤ k
      · rw [if_pos c2, if_pos c2]
        obtain ⟨k, hk, rfl⟩ := ofR (by omega) ⟨c2, c1⟩
        rw [nt_nI (by omega)]
        -- the state is the first row's last
        obtain ⟨jn, a1, a2, a3, a4, _, _⟩ := hI.path hls (by omega) (S.dq j) (Nat.le_refl _)
        have hcN : cw (lgl bd.P bd.H bd.D bd.kd) (cnx tn bd.H bd.D bd.kd) (arT g) (S.dq j) (cpi tn (stx bd)) = true := by
          have := hI.cw2 (T := arT g) j 0 j (Nat.le_refl _) j1 (by show arT g (S.q j) = true; rw [j2]; exact (arT_iff hg hx8).mpr x2)
          exact this
        have hT : arT g (fsx (lgl bd.P bd.H bd.D bd.kd) (cnx tn bd.H bd.D bd.kd) (arT g) (S.dq j) (cpi tn (stx bd)) (S.dq j)) = true := by
          have := fsx_ok hcN (S.dq j) (Nat.le_refl _)
          rw [Nat.sub_self] at this
          exact this
        have hxe : fsx (lgl bd.P bd.H bd.D bd.kd) (cnx tn bd.H bd.D bd.kd) (arT g) (S.dq j) (cpi tn (stx bd)) (S.dq j) = x := by
          rw [← a3] at hT ⊢
          obtain ⟨_, b2, b3⟩ := hI.2.1 jn a1
          obtain ⟨_, b5, b6⟩ := hI.2.1 j j1
          have t1 := (arT_iff hg b2).mp hT
          cases tn with
          | true =>
            have p1 := BI.par (P := bd.P) (H := bd.H) (D := bd.D) (kd := bd.kd) hI jn jn (Nat.le_refl _) a1
            have p2 := BI.par (P := bd.P) (H := bd.H) (D := bd.D) (kd := bd.kd) hI j j (Nat.le_refl _) j1
            rw [a4, ← p2, j2] at p1
            omega
          | false =>
            have := b3.2 rfl
            have := b6.2 rfl
            rw [j2] at this
            omega
        have h46 := few_46 hSE hS hI hls (by omega) hk (S.dq j - (k + 1)) fu (S.dq j) (by omega) (Nat.le_refl _) (by show _ < 20000; omega)
        rw [hxe] at h46
        rw [show nI (S.dq j) - 1 = nI (S.dq j - 1) by rw [show (1 : Int32) = nI 1 from rfl, pk_sub (by omega)], h46]
        simp only [Option.bind_some]
        obtain ⟨jk, c3, c4, c5, c6, c7, _⟩ := hI.path hls (by omega) (k + 1) (by omega)
        obtain ⟨d1, d2, d3⟩ := c7 (by omega)
        rw [gR_of (x := p + 4) (by omega) h2 rfl]
        simp only [Option.bind_some]
        rw [← c5, aI_of (by omega) h6 (hI.2.1 jk c3).2.1 (by omega), (hS.2.2.2 jk d1 c3).1, d3]
        simp only [Option.bind_some]
        obtain ⟨m1, m2, m3⟩ := q_map hV h0 hf
        have hfm : fsm (lgl bd.P bd.H bd.D bd.kd) (cnx tn bd.H bd.D bd.kd) (arT g) (S.dq j) (cpi tn (stx bd)) (k + 1 - 1) = fsm (lgl bd.P bd.H bd.D bd.kd) (bhd bd.H bd.D bd.kd) (arT g) (S.dq j) (stx bd) k := by
          rw [show k + 1 - 1 = k by omega]
          refine fsm_map m1 m2 m3 (arT_pi g) (VX_stx hV h0) ?_ (by omega)
          have e' := cw_map (T := arT g) m1 m2 m3 (S.dq j) (stx bd) (VX_stx hV h0)
          rw [hcN, show (fun y => arT g (cpi tn y)) = arT g from funext (arT_pi g)] at e'
          exact e'.symm
        have hlt : fsm (lgl bd.P bd.H bd.D bd.kd) (cnx tn bd.H bd.D bd.kd) (arT g) (S.dq j) (cpi tn (stx bd)) (k + 1 - 1) < 16 := by
          rw [← d3]; exact (hI.2.2.2.1 jk d1 c3).2.1
        rw [hfm] at hlt ⊢
        generalize fsm (lgl bd.P bd.H bd.D bd.kd) (bhd bd.H bd.D bd.kd) (arT g) (S.dq j) (stx bd) k = w at hlt ⊢
        rw [show (2 : Int32) = nI 2 from rfl, ni_shr (by omega) (by omega), pk_andN (m := 3) (k := 2) (by omega) (by decide +kernel), show (10 : Int32) = nI 10 from rfl, pk_mul, nI_add]
      · rw [if_neg c2, if_neg c2]
    · rw [if_neg c1, if_neg c1]
end CFw
