/-! the class: ways, chance -/
section Lj
variable {N n l : Nat} {τ : Hp} {tn : Bool} {gl : Nat → Int32} {P H D : Nat} {kd : Nat → Nat} {s0 : Nat}
theorem odN_ok {o : Nat} (ho : o = 0 ∨ (o = 4096 ∧ tn = true)) : odN tn o = 0 ∨ (odN tn o = 4096 ∧ tn = true) := by
  unfold odN
  cases tn with
  | false => exact Or.inl rfl
  | true => rcases ho with rfl | ⟨rfl, _⟩ <;> simp
theorem rows_2 {nn : Nat} (hnn : nn ≤ 12) {v : Nat → Nat} {v1 : Int32} : ∀ (r t k a c : Nat) (kn : Nat → Int32) (W C : Nat → Int64) (Wn : Nat → Nat) (o : Nat), k + r = nn → r < t → LYX N τ n l tn gl P H D kd a c → KN P H D kd kn → WtC W Wn → (o = 0 ∨ (o = 4096 ∧ tn = true)) → LK' tn P H D kd false s0 k Wn o 0 v → ∃ a' c' kn' W' C' Wn' o', L_X3_rowsTo_2 N l v1 (nI nn) t (LH τ n l kn a c W C (nI o)) (nI k) = some (LH τ n l kn' a' c' W' C' (nI o')) ∧ LYX N τ n l tn gl P H D kd a' c' ∧ KN P H D kd kn' ∧ WtC W' Wn' ∧ (o' = 0 ∨ (o' = 4096 ∧ tn = true)) ∧ LK' tn P H D kd false s0 nn Wn' o' 0 v := by
  intro r
  induction r with
  | zero =>
    intro t k a c kn W C Wn o hk ht hX hK hW ho hL
    obtain ⟨t, rfl⟩ : ∃ k, t = k + 1 := ⟨t - 1, by omega⟩
    obtain rfl : k = nn := by omega
    exact ⟨a, c, kn, W, C, Wn, o, by rw [L_X3_rowsTo_2.eq_2, if_pos (nI_le (Nat.le_refl _) (by omega))], hX, hK, hW, ho, hL⟩
  | succ r ih =>
    intro t k a c kn W C Wn o hk ht hX hK hW ho hL
    obtain ⟨t, rfl⟩ : ∃ k, t = k + 1 := ⟨t - 1, by omega⟩
    have h46 := pow4_6 (show D ≤ 6 from hX.2.2.2.2.2.2.2.2.2.2.1)
    obtain ⟨kn1, C1, M1, g1, g2, g3, g4⟩ := goOn_ok (C := C) hX ho hK hW (hL.bd (pow_b false (show k ≤ 12 by omega) (Nat.le_refl _))) false
    obtain ⟨a', c', kn', W', C', Wn', o', k1, k2⟩ := ih t (k + 1) c a kn1 C1 W M1 (odN tn o) (by omega) (by omega) hX.sw g2 g3 (odN_ok ho) (hL.nextF h46 ho g4)
    refine ⟨a', c', kn', W', C', Wn', o', ?_, k2⟩
    rw [L_X3_rowsTo_2.eq_2, if_neg (nI_ge (by omega) (by omega)), show m_X3_goOn N (LH τ n l kn a c W C (nI o)) l 0 = _ from g1]
    simp only [Option.bind_some]
    rw [nI_1]
    exact k1
theorem parts_6 {nn d p : Nat} (hnn : nn ≤ 7) (hd : d < 6) (hp : p < 4) : ∀ (r t k a c : Nat) (kn : Nat → Int32) (W C : Nat → Int64) (Wn : Nat → Nat) (o pt : Nat), k + r = nn → r < t → LYX N τ n l tn gl P H D kd a c → KN P H D kd kn → WtC W Wn → (o = 0 ∨ (o = 4096 ∧ tn = true)) → LK' tn P H D kd true s0 k Wn o pt (fun x => if pgx x d == p then 1 else 0) → ∃ a' c' kn' W' C' Wn' o' pt', L_X3_partsOn_6 N l (nI d) (nI p) (nI nn) t (LH τ n l kn a c W C (nI o)) (lN pt) (nI k) = some (lN pt', LH τ n l kn' a' c' W' C' (nI o')) ∧ LYX N τ n l tn gl P H D kd a' c' ∧ KN P H D kd kn' ∧ WtC W' Wn' ∧ (o' = 0 ∨ (o' = 4096 ∧ tn = true)) ∧ LK' tn P H D kd true s0 nn Wn' o' pt' (fun x => if pgx x d == p then 1 else 0) := by
  intro r
  induction r with
  | zero =>
    intro t k a c kn W C Wn o pt hk ht hX hK hW ho hL
    obtain ⟨t, rfl⟩ : ∃ k, t = k + 1 := ⟨t - 1, by omega⟩
    obtain rfl : k = nn := by omega
    exact ⟨a, c, kn, W, C, Wn, o, pt, by rw [L_X3_partsOn_6.eq_2, if_pos (nI_le (Nat.le_refl _) (by omega))], hX, hK, hW, ho, hL⟩
  | succ r ih =>
    intro t k a c kn W C Wn o pt hk ht hX hK hW ho hL
    obtain ⟨t, rfl⟩ : ∃ k, t = k + 1 := ⟨t - 1, by omega⟩
    have h46 := pow4_6 (show D ≤ 6 from hX.2.2.2.2.2.2.2.2.2.2.1)
    have hB := hL.bd (pow_b true (show k ≤ 7 by omega) (Nat.le_refl _))
    obtain ⟨kn0, w1, w2⟩ := weightsOn_ok (C := C) hX (ho.imp id And.left) hd hp hK hW hB true
    obtain ⟨kn1, C1, M1, g1, g2, g3, g4⟩ := goOn_ok (C := C) hX ho w2 hW hB true
    obtain ⟨a', c', kn', W', C', Wn', o', pt', k1, k2⟩ := ih t (k + 1) c a kn1 C1 W M1 (odN tn o) _ (by omega) (by omega) hX.sw g2 g3 (odN_ok ho) (hL.nextT h46 hd ho g4)
    refine ⟨a', c', kn', W', C', Wn', o', pt', ?_, k2⟩
    rw [L_X3_partsOn_6.eq_2, if_neg (nI_ge (by omega) (by omega)), show m_X3_weightsOn N (LH τ n l kn a c W C (nI o)) l (nI d) (nI p) 1 = _ from w1]
    simp only [Option.bind_some]
    rw [lN_add, show (60 : Int64) = lN 60 from rfl, lN_mul, lt, show m_X3_goOn N (LH τ n l kn0 a c W C (nI o)) l 1 = _ from g1]
    simp only [Option.bind_some]
    rw [nI_1]
    exact k1
/-- the start -/
theorem LK'.start {ch : Bool} (hD : D ≤ 6) (hs : s0 % 4096 < 4 ^ D) {v : Nat → Nat} : LK' tn P H D kd ch s0 0 (vu (fun _ => 0) (s0 % 4096) 1) (4096 * (s0 / 4096)) 0 v := by
  refine ⟨fun r => ?_, ?_⟩
  · rw [Nat.zero_mul, Nat.zero_add, dot_one hs, Nat.add_zero, show s0 % 4096 + 4096 * (s0 / 4096) = s0 by omega]
  · rw [dot_one hs, Nat.pow_zero]; exact Nat.le_refl _
theorem lbegin_ok {a c : Nat} (h : LYX N τ n l tn gl P H D kd a c) {kn : Nat → Int32} {W C : Nat → Int64} {od : Int32} (hs0 : s0 < 8192) (hst : ∀ W od, m_X4_start N (LH τ n l kn a c W C od) n = some (nI s0)) : ∃ W', m_X3_begin N (LH τ n l kn a c W C od) l = some (LH τ n l kn a c W' C (nI (4096 * (s0 / 4096)))) ∧ WtC W' (vu (fun _ => 0) (s0 % 4096) 1) := by
  have haN : a < N := by have := h.2.2.1; have := h.2.2.2.1; omega
  have hl : l < N := by have := h.2.2.1; omega
  unfold m_X3_begin
  rw [L_rv h, L_r2 h]
  simp only [Option.bind_some]
  rw [hst, L_r0 h]
  simp only [Option.bind_some]
  obtain ⟨g', f1, f2⟩ := fillJ_ok haN (LH_a h (kn := kn) (W := W) (C := C) (od := od))
  rw [f1, LH_ua h]
  simp only [Option.bind_some]
  rw [L_r0 h]
  simp only [Option.bind_some]
  rw [and4095 (by omega), and4096 hs0, sJ_of (n := 4096) (f := g') haN (LH_a h) (Nat.mod_lt s0 (by omega)) (by omega)]
  simp only [Option.bind_some]
  rw [show (.inl (1, 4096, .inr (.inl (vp_updL g' (s0 % 4096) 1))) : va_E) = lR (vp_updL g' (s0 % 4096) 1) from rfl, LH_ua h, pV_of (i := l) (fs := [.ref a, .ref c, .ref n, .int od]) hl (LH_l h) (by simp)]
  simp only [Option.bind_some, List.set]
  rw [show (.inr (3, [.ref a, .ref c, .ref n, .int (nI (4096 * (s0 / 4096)))]) : va_E) = lObj a c n (nI (4096 * (s0 / 4096))) from rfl, LH_od h]
  refine ⟨_, rfl, fun x hx => ?_⟩
  by_cases e : x = s0 % 4096
  · subst e; rw [updL_s, vu_s]; rfl
  · rw [updL_n e, vu_n e, f2 x hx]; rfl
theorem common_ok : ∀ (n t k a b : Nat), b < 2 ^ n → a < 2 ^ 62 → b < 2 ^ 62 → 2 * n < t → k + 2 * n < 200 → L_X8_commonOf_9 t (lN a) (lN b) (nI k) = some (lN (gcl (2 * n) a b)) := by
  have stop : ∀ (t a k : Nat), k < 200 → L_X8_commonOf_9 (t + 1) (lN a) (lN 0) (nI k) = some (lN a) := fun t a k hk => by
    rw [L_X8_commonOf_9.eq_2, if_neg (show ¬ (200 : Int32) ≤ nI k by rw [show (200 : Int32) = nI 200 from rfl, nI_leI (by omega) (by omega)]; omega), if_pos (show lg_cmp (lN 0) 0 = 0 from (lcmp_eq (by omega)).mpr rfl)]
  have go : ∀ (t a b k : Nat), k < 200 → 0 < b → a < 2 ^ 62 → b < 2 ^ 62 → L_X8_commonOf_9 (t + 1) (lN a) (lN b) (nI k) = L_X8_commonOf_9 t (lN b) (lN (a % b)) (nI (k + 1)) := fun t a b k hk h0 ha hb => by
    rw [L_X8_commonOf_9.eq_2, if_neg (show ¬ (200 : Int32) ≤ nI k by rw [show (200 : Int32) = nI 200 from rfl, nI_leI (by omega) (by omega)]; omega), if_neg (show ¬ lg_cmp (lN b) 0 = 0 from fun e => by have := (lcmp_eq (by omega)).mp e; omega), nzJ, if_neg (lN_ne0 h0 (by omega))]
    simp only [Option.bind_some]
    rw [pk_lRem (by omega) h0 (by omega), nI_1]
  intro n
  induction n with
  | zero =>
    intro t k a b hb ha hb2 ht hk
    obtain ⟨t, rfl⟩ : ∃ k, t = k + 1 := ⟨t - 1, by omega⟩
    obtain rfl : b = 0 := by omega
    exact stop t a k (by omega)
  | succ n ih =>
    intro t k a b hb ha hb2 ht hk
    obtain ⟨t, rfl⟩ : ∃ k, t = k + 2 := ⟨t - 2, by omega⟩
    rw [show 2 * (n + 1) = 2 * n + 1 + 1 by omega, gcl_s]
    by_cases e : b = 0
    · subst e
      rw [if_pos rfl]
      exact stop _ a k (by omega)
    · rw [if_neg e, gcl_s, show t + 2 = (t + 1) + 1 from rfl, go (t + 1) a b k (by omega) (by omega) ha hb2]
      have h1 : a % b < b := Nat.mod_lt _ (by omega)
      by_cases c2 : a % b = 0
      · rw [if_pos c2, c2]
        exact stop t b (k + 1) (by omega)
      · rw [if_neg c2, go t b (a % b) (k + 1) (by omega) (by omega) hb2 (by omega)]
        have h2 : b % (a % b) < a % b := Nat.mod_lt _ (by omega)
        have h3 : b % (a % b) + a % b ≤ b := by
          have := Nat.div_add_mod b (a % b)
          have h4 : 1 ≤ b / (a % b) := (Nat.le_div_iff_mul_le (by omega)).mpr (by omega)
          have := Nat.mul_le_mul_left (a % b) h4
          omega
        rw [Nat.pow_succ] at hb
        exact ih t (k + 1 + 1) _ _ (by omega) (by omega) (by omega) (by omega) (by omega)
theorem all_5 {σ : Hp} {nn : Nat} (hnn : nn ≤ 7) : ∀ (r t k : Nat), k + r = nn → r < t → L_X3_partsOfAll_5 N σ (nI nn) t (lN (60 ^ k)) (nI k) = some (lN (60 ^ nn)) := by
  intro r
  induction r with
  | zero =>
    intro t k hk ht
    obtain ⟨t, rfl⟩ : ∃ k, t = k + 1 := ⟨t - 1, by omega⟩
    obtain rfl : k = nn := by omega
    rw [L_X3_partsOfAll_5.eq_2, if_pos (nI_le (Nat.le_refl _) (by omega))]
  | succ r ih =>
    intro t k hk ht
    obtain ⟨t, rfl⟩ : ∃ k, t = k + 1 := ⟨t - 1, by omega⟩
    rw [L_X3_partsOfAll_5.eq_2, if_neg (nI_ge (by omega) (by omega)), show (60 : Int64) = lN 60 from rfl, lN_mul, ← Nat.pow_succ, nI_1]
    exact ih t (k + 1) (by omega) (by omega)
end Lj
