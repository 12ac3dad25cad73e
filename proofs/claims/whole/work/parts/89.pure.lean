/-! the start, and the law -/
/-- nothing is there yet -/
def s0 : AS := (fun _ => -1, fun _ => 0, fun _ _ => 0, 0, 0, fun _ => 0, 0, noB, 0, fun _ => noB, fun _ => none, 0, fun _ => 0)
theorem BR_0 : BR (fun _ => 0) noB := ⟨rfl, rfl, rfl, rfl, rfl, by decide +kernel⟩
theorem RC_0 : RC u0 s0 := by
  refine ⟨fun k hk => ⟨if_pos ⟨by omega, by omega, by omega, rfl⟩, ?_, fun j _ => if_neg (by omega)⟩, rfl, ⟨rfl, fun j hj => absurd hj (Nat.not_lt_zero _)⟩, rfl, ?_, ⟨rfl, 0, by omega, rfl, fun j hj => absurd hj (Nat.not_lt_zero _)⟩, fun k hk => ?_, ⟨rfl, fun j hj => absurd hj (Nat.not_lt_zero _)⟩⟩
  · rw [if_pos (show s0.lane k = -1 from rfl)]
    exact if_neg (by omega)
  · rw [u0_n (by omega)]; exact BR_0
  · rw [u0_n (by omega)]; exact BR_0
theorem RM_0 : RM f0 a0 s0 := by
  refine ⟨fun k hk => ⟨if_pos ⟨rfl, hk⟩, fun h => absurd rfl h, fun j _ => by rw [a0_n (by omega)]; rfl⟩, rfl, ⟨rfl, fun j hj => absurd hj (Nat.not_lt_zero _)⟩, rfl, ?_, ⟨rfl, fun j hj => absurd hj (Nat.not_lt_zero _)⟩, fun k hk => Or.inl ⟨by rw [a0_n (by omega)], rfl⟩, ⟨rfl, fun j hj => absurd hj (Nat.not_lt_zero _)⟩⟩
  rw [a0_n (by omega)]
  exact ⟨rfl, rfl, rfl, rfl, fun d _ => ⟨rfl, rfl⟩⟩
theorem VA_0 : VA 0 s0 := ⟨fun k _ => ⟨Or.inl rfl, Nat.zero_le _⟩, ⟨Nat.zero_le _, fun j hj => absurd hj (Nat.not_lt_zero _)⟩, Or.inl rfl, ⟨Nat.zero_le _, fun j hj => absurd hj (Nat.not_lt_zero _)⟩, (fun k _ b e => nomatch (show (none : Option AB) = some b from e)), Nat.zero_le _, fun _ => rfl⟩
theorem law_pure (L : Nat) (xs : Nat → Int32) (hL : L ≤ 384) : m_L_law L xs (fun _ => .inr (0, [])) = some () := by
  unfold m_L_law
  have o0 : OKA 0 (fun _ => .inr (0, [])) := fun i hi => absurd hi (by omega)
  rw [al_of (HW_of o0) (fun x hx => by simp at hx; omega) (by omega) (by omega) (by omega)]
  simp only [Option.bind_some, mkc, Nat.reduceAdd]
  have o1 : OKA 1 _ := o0.mono_up (e := .inr (8, [.null, .null, .null, .null, .null, .null, .null, .null, .null, .null, .int 0, .int 0])) (okE_L rfl)
  rw [al_of (HW_of o1) (fun x hx => by simp at hx; omega) (by omega) (by omega) (by omega)]
  simp only [Option.bind_some]
  obtain ⟨σ1, c1, c2, c3⟩ := class_init vup_s o1
  rw [c1]
  simp only [Option.bind_some]
  rw [nb_ok (by omega)]
  simp only [Option.bind_some]
  rw [al_of (HW_of c3) (fun x hx => by simp at hx; omega) (by omega) (by omega) (by omega)]
  simp only [Option.bind_some, mkc, Nat.reduceAdd]
  have o2 : OKA 54 _ := c3.mono_up (e := .inr (9, [.null, .null, .null, .int 0, .int 0, .null, .int 0, .int 0, .int 0, .int 0, .null, .int 0, .null, .null, .null, .null, .int 0, .null, .null, .int 0, .int 0, .int 0, .null, .int 0])) (okE_L rfl)
  rw [al_of (HW_of o2) (fun x hx => by simp at hx; omega) (by omega) (by omega) (by omega)]
  simp only [Option.bind_some]
  obtain ⟨σ2, m1, m2, m3⟩ := model_init vup_s o2
  rw [m1]
  simp only [Option.bind_some]
  rw [nb_ok (by omega)]
  simp only [Option.bind_some]
  have hM : MH σ2 f0 a0 b0 = σ2 := (MH_keep m3).symm
  have hC : σ2 = CH σ2 u0 (0, 0, 0) := CH_of (σ := σ2) (fun i hi => by rw [m2 i hi, vup_n (by omega), c2 i hi, CH_lt hi])
  have hI : Inv 66 0 σ2 s0 := ⟨σ2, u0, (0, 0, 0), f0, a0, b0, by rw [hM]; exact hC, RC_0, RM_0, VA_0, Nat.le_refl _, Nat.le_refl _, ⟨(show 0 < 66 by omega), (show 0 < 66 by omega), (show 0 < 66 by omega)⟩, fun i a b => okE_m (Nat.le_refl _) i a b, Or.inl rfl, Or.inl rfl, Or.inl rfl, Or.inl rfl, Or.inl rfl, Or.inl rfl⟩
  have hl := law_loop hL xs 64 fu 0 66 0 66 42494 σ2 s0 (by omega) rfl (by omega) (by show _ < 20000; omega) hI (by omega) (by omega) (by omega)
  obtain ⟨z, hz⟩ := Option.isSome_iff_exists.mp hl
  have hz' : L_L_law_18 L xs 0 53 fu 66 66 42494 σ2 0 = some z := hz
  rw [hz']
  rfl
