/-! the reference's constructor -/
def f0 : Nat → Int32 := fun _ => 0
def a0 : Nat → Nat → Int32 := fun i k => if i = 55 ∧ k < 8 then -1 else 0
def b0 : Nat → Nat → Int64 := fun _ _ => 0
theorem a0_n {i : Nat} (h : i ≠ 55) : a0 i = fun _ => 0 := by
  funext k
  exact if_neg (fun e => h e.1)
theorem a0_55 : a0 55 = fun k => if k < 8 then -1 else 0 := by
  funext k
  unfold a0
  by_cases c : k < 8
  · rw [if_pos ⟨rfl, c⟩, if_pos c]
  · rw [if_neg (fun e => c e.2), if_neg c]
theorem lane_start {v0 a N c s : Nat} {fs : List Value} {σ : Hp} (h1 : v0 < N) (h2 : a < N) (h3 : v0 ≠ a) (hf : fs[1]? = some (.ref a)) (hv : σ v0 = .inr (9, fs)) (ha : σ a = .inl (0, 8, .inl (fun _ => 0))) : L_X9_init_108 v0 fu N c s σ 0 = some (N, c, s, va_up σ a (.inl (0, 8, .inl (fun j => if j < 8 then -1 else 0)))) :=
  lane_loop h1 h2 h3 hf 8 fu 0 σ (by omega) (by show _ < 20000; omega) hv (by
    rw [ha]
    have : (fun j => if j < 0 then (-1 : Int32) else 0) = (fun _ : Nat => (0 : Int32)) := by
      funext j; rw [if_neg (by omega)]
    rw [this])
set_option maxHeartbeats 4000000 in
set_option maxRecDepth 100000 in
theorem model_init {σ : Hp} (h0 : σ 53 = .inr (9, [.null, .null, .null, .int 0, .int 0, .null, .int 0, .int 0, .int 0, .int 0, .null, .int 0, .null, .null, .null, .null, .int 0, .null, .null, .int 0, .int 0, .int 0, .null, .int 0])) (hO : OKA 54 σ) : ∃ σ', m_X9_init 54 σ 53 = some (66, σ') ∧ (∀ i, i < 53 → σ' i = σ i) ∧ ∀ i, 53 ≤ i → i < 66 → σ' i = MH σ' f0 a0 b0 i := by
  unfold m_X9_init
  rw [al_ok (HW_of hO) (fun x hx => by simp at hx; omega) (by omega) (by omega) (by omega)]
  simp only [Option.bind_some, mkc, List.set, Nat.reduceAdd]
  have o1 : OKA 55 _ := OKA.mono_up hO (e := .inl (0, 320, .inl (fun _ => 0))) (okE_i)
  rw [pV_of (i := 53) (fs := [.null, .null, .null, .int 0, .int 0, .null, .int 0, .int 0, .int 0, .int 0, .null, .int 0, .null, .null, .null, .null, .int 0, .null, .null, .int 0, .int 0, .int 0, .null, .int 0]) (by omega) (by rw [vup_n (by omega)]; exact h0) (by simp)]
  simp only [Option.bind_some, mkc, List.set, Nat.reduceAdd]
  have o2 : OKA 55 _ := OKA.up o1 (k := 53) (e := .inr (9, [.ref 54, .null, .null, .int 0, .int 0, .null, .int 0, .int 0, .int 0, .int 0, .null, .int 0, .null, .null, .null, .null, .int 0, .null, .null, .int 0, .int 0, .int 0, .null, .int 0])) (okE_L rfl)
  rw [al_ok (HW_of o2) (fun x hx => by simp at hx; omega) (by omega) (by omega) (by omega)]
  simp only [Option.bind_some, mkc, List.set, Nat.reduceAdd]
  have o3 : OKA 56 _ := OKA.mono_up o2 (e := .inl (0, 8, .inl (fun _ => 0))) (okE_i)
  rw [pV_of (i := 53) (fs := [.ref 54, .null, .null, .int 0, .int 0, .null, .int 0, .int 0, .int 0, .int 0, .null, .int 0, .null, .null, .null, .null, .int 0, .null, .null, .int 0, .int 0, .int 0, .null, .int 0]) (by omega) (by rw [vup_n (by omega), vup_s]) (by simp)]
  simp only [Option.bind_some, mkc, List.set, Nat.reduceAdd]
  have o4 : OKA 56 _ := OKA.up o3 (k := 53) (e := .inr (9, [.ref 54, .ref 55, .null, .int 0, .int 0, .null, .int 0, .int 0, .int 0, .int 0, .null, .int 0, .null, .null, .null, .null, .int 0, .null, .null, .int 0, .int 0, .int 0, .null, .int 0])) (okE_L rfl)
  rw [al_ok (HW_of o4) (fun x hx => by simp at hx; omega) (by omega) (by omega) (by omega)]
  simp only [Option.bind_some, mkc, List.set, Nat.reduceAdd]
  have o5 : OKA 57 _ := OKA.mono_up o4 (e := .inl (0, 8, .inl (fun _ => 0))) (okE_i)
  rw [pV_of (i := 53) (fs := [.ref 54, .ref 55, .null, .int 0, .int 0, .null, .int 0, .int 0, .int 0, .int 0, .null, .int 0, .null, .null, .null, .null, .int 0, .null, .null, .int 0, .int 0, .int 0, .null, .int 0]) (by omega) (by rw [vup_n (by omega), vup_s]) (by simp)]
  simp only [Option.bind_some, mkc, List.set, Nat.reduceAdd]
  have o6 : OKA 57 _ := OKA.up o5 (k := 53) (e := .inr (9, [.ref 54, .ref 55, .ref 56, .int 0, .int 0, .null, .int 0, .int 0, .int 0, .int 0, .null, .int 0, .null, .null, .null, .null, .int 0, .null, .null, .int 0, .int 0, .int 0, .null, .int 0])) (okE_L rfl)
  rw [al_ok (HW_of o6) (fun x hx => by simp at hx; omega) (by omega) (by omega) (by omega)]
  simp only [Option.bind_some, mkc, List.set, Nat.reduceAdd]
  have o7 : OKA 58 _ := OKA.mono_up o6 (e := .inl (2, 60, .inl (fun _ => 0))) (okE_i)
  rw [pV_of (i := 53) (fs := [.ref 54, .ref 55, .ref 56, .int 0, .int 0, .null, .int 0, .int 0, .int 0, .int 0, .null, .int 0, .null, .null, .null, .null, .int 0, .null, .null, .int 0, .int 0, .int 0, .null, .int 0]) (by omega) (by rw [vup_n (by omega), vup_s]) (by simp)]
  simp only [Option.bind_some, mkc, List.set, Nat.reduceAdd]
  have o8 : OKA 58 _ := OKA.up o7 (k := 53) (e := .inr (9, [.ref 54, .ref 55, .ref 56, .int 0, .int 0, .ref 57, .int 0, .int 0, .int 0, .int 0, .null, .int 0, .null, .null, .null, .null, .int 0, .null, .null, .int 0, .int 0, .int 0, .null, .int 0])) (okE_L rfl)
  rw [al_ok (HW_of o8) (fun x hx => by simp at hx; omega) (by omega) (by omega) (by omega)]
  simp only [Option.bind_some, mkc, List.set, Nat.reduceAdd]
  have o9 : OKA 59 _ := OKA.mono_up o8 (e := .inl (0, 448, .inl (fun _ => 0))) (okE_i)
  rw [pV_of (i := 53) (fs := [.ref 54, .ref 55, .ref 56, .int 0, .int 0, .ref 57, .int 0, .int 0, .int 0, .int 0, .null, .int 0, .null, .null, .null, .null, .int 0, .null, .null, .int 0, .int 0, .int 0, .null, .int 0]) (by omega) (by rw [vup_n (by omega), vup_s]) (by simp)]
  simp only [Option.bind_some, mkc, List.set, Nat.reduceAdd]
  have o10 : OKA 59 _ := OKA.up o9 (k := 53) (e := .inr (9, [.ref 54, .ref 55, .ref 56, .int 0, .int 0, .ref 57, .int 0, .int 0, .int 0, .int 0, .ref 58, .int 0, .null, .null, .null, .null, .int 0, .null, .null, .int 0, .int 0, .int 0, .null, .int 0])) (okE_L rfl)
  rw [al_ok (HW_of o10) (fun x hx => by simp at hx; omega) (by omega) (by omega) (by omega)]
  simp only [Option.bind_some, mkc, List.set, Nat.reduceAdd]
  have o11 : OKA 60 _ := OKA.mono_up o10 (e := .inl (3, 2, .inl (fun _ => 0))) (okE_i)
  rw [pV_of (i := 53) (fs := [.ref 54, .ref 55, .ref 56, .int 0, .int 0, .ref 57, .int 0, .int 0, .int 0, .int 0, .ref 58, .int 0, .null, .null, .null, .null, .int 0, .null, .null, .int 0, .int 0, .int 0, .null, .int 0]) (by omega) (by rw [vup_n (by omega), vup_s]) (by simp)]
  simp only [Option.bind_some, mkc, List.set, Nat.reduceAdd]
  have o12 : OKA 60 _ := OKA.up o11 (k := 53) (e := .inr (9, [.ref 54, .ref 55, .ref 56, .int 0, .int 0, .ref 57, .int 0, .int 0, .int 0, .int 0, .ref 58, .int 0, .ref 59, .null, .null, .null, .int 0, .null, .null, .int 0, .int 0, .int 0, .null, .int 0])) (okE_L rfl)
  rw [al_ok (HW_of o12) (fun x hx => by simp at hx; omega) (by omega) (by omega) (by omega)]
  simp only [Option.bind_some, mkc, List.set, Nat.reduceAdd]
  have o13 : OKA 61 _ := OKA.mono_up o12 (e := .inl (0, 8192, .inl (fun _ => 0))) (okE_i)
  rw [pV_of (i := 53) (fs := [.ref 54, .ref 55, .ref 56, .int 0, .int 0, .ref 57, .int 0, .int 0, .int 0, .int 0, .ref 58, .int 0, .ref 59, .null, .null, .null, .int 0, .null, .null, .int 0, .int 0, .int 0, .null, .int 0]) (by omega) (by rw [vup_n (by omega), vup_s]) (by simp)]
  simp only [Option.bind_some, mkc, List.set, Nat.reduceAdd]
  have o14 : OKA 61 _ := OKA.up o13 (k := 53) (e := .inr (9, [.ref 54, .ref 55, .ref 56, .int 0, .int 0, .ref 57, .int 0, .int 0, .int 0, .int 0, .ref 58, .int 0, .ref 59, .ref 60, .null, .null, .int 0, .null, .null, .int 0, .int 0, .int 0, .null, .int 0])) (okE_L rfl)
  rw [al_ok (HW_of o14) (fun x hx => by simp at hx; omega) (by omega) (by omega) (by omega)]
  simp only [Option.bind_some, mkc, List.set, Nat.reduceAdd]
  have o15 : OKA 62 _ := OKA.mono_up o14 (e := .inl (0, 8192, .inl (fun _ => 0))) (okE_i)
  rw [pV_of (i := 53) (fs := [.ref 54, .ref 55, .ref 56, .int 0, .int 0, .ref 57, .int 0, .int 0, .int 0, .int 0, .ref 58, .int 0, .ref 59, .ref 60, .null, .null, .int 0, .null, .null, .int 0, .int 0, .int 0, .null, .int 0]) (by omega) (by rw [vup_n (by omega), vup_s]) (by simp)]
  simp only [Option.bind_some, mkc, List.set, Nat.reduceAdd]
  have o16 : OKA 62 _ := OKA.up o15 (k := 53) (e := .inr (9, [.ref 54, .ref 55, .ref 56, .int 0, .int 0, .ref 57, .int 0, .int 0, .int 0, .int 0, .ref 58, .int 0, .ref 59, .ref 60, .ref 61, .null, .int 0, .null, .null, .int 0, .int 0, .int 0, .null, .int 0])) (okE_L rfl)
  rw [al_ok (HW_of o16) (fun x hx => by simp at hx; omega) (by omega) (by omega) (by omega)]
  simp only [Option.bind_some, mkc, List.set, Nat.reduceAdd]
  have o17 : OKA 63 _ := OKA.mono_up o16 (e := .inl (3, 8192, .inl (fun _ => 0))) (okE_i)
  rw [pV_of (i := 53) (fs := [.ref 54, .ref 55, .ref 56, .int 0, .int 0, .ref 57, .int 0, .int 0, .int 0, .int 0, .ref 58, .int 0, .ref 59, .ref 60, .ref 61, .null, .int 0, .null, .null, .int 0, .int 0, .int 0, .null, .int 0]) (by omega) (by rw [vup_n (by omega), vup_s]) (by simp)]
  simp only [Option.bind_some, mkc, List.set, Nat.reduceAdd]
  have o18 : OKA 63 _ := OKA.up o17 (k := 53) (e := .inr (9, [.ref 54, .ref 55, .ref 56, .int 0, .int 0, .ref 57, .int 0, .int 0, .int 0, .int 0, .ref 58, .int 0, .ref 59, .ref 60, .ref 61, .ref 62, .int 0, .null, .null, .int 0, .int 0, .int 0, .null, .int 0])) (okE_L rfl)
  rw [al_ok (HW_of o18) (fun x hx => by simp at hx; omega) (by omega) (by omega) (by omega)]
  simp only [Option.bind_some, mkc, List.set, Nat.reduceAdd]
  have o19 : OKA 64 _ := OKA.mono_up o18 (e := .inl (1, 8192, .inr (.inl (fun _ => 0)))) (okE_l)
  rw [pV_of (i := 53) (fs := [.ref 54, .ref 55, .ref 56, .int 0, .int 0, .ref 57, .int 0, .int 0, .int 0, .int 0, .ref 58, .int 0, .ref 59, .ref 60, .ref 61, .ref 62, .int 0, .null, .null, .int 0, .int 0, .int 0, .null, .int 0]) (by omega) (by rw [vup_n (by omega), vup_s]) (by simp)]
  simp only [Option.bind_some, mkc, List.set, Nat.reduceAdd]
  have o20 : OKA 64 _ := OKA.up o19 (k := 53) (e := .inr (9, [.ref 54, .ref 55, .ref 56, .int 0, .int 0, .ref 57, .int 0, .int 0, .int 0, .int 0, .ref 58, .int 0, .ref 59, .ref 60, .ref 61, .ref 62, .int 0, .ref 63, .null, .int 0, .int 0, .int 0, .null, .int 0])) (okE_L rfl)
  rw [al_ok (HW_of o20) (fun x hx => by simp at hx; omega) (by omega) (by omega) (by omega)]
  simp only [Option.bind_some, mkc, List.set, Nat.reduceAdd]
  have o21 : OKA 65 _ := OKA.mono_up o20 (e := .inl (1, 8192, .inr (.inl (fun _ => 0)))) (okE_l)
  rw [pV_of (i := 53) (fs := [.ref 54, .ref 55, .ref 56, .int 0, .int 0, .ref 57, .int 0, .int 0, .int 0, .int 0, .ref 58, .int 0, .ref 59, .ref 60, .ref 61, .ref 62, .int 0, .ref 63, .null, .int 0, .int 0, .int 0, .null, .int 0]) (by omega) (by rw [vup_n (by omega), vup_s]) (by simp)]
  simp only [Option.bind_some, mkc, List.set, Nat.reduceAdd]
  have o22 : OKA 65 _ := OKA.up o21 (k := 53) (e := .inr (9, [.ref 54, .ref 55, .ref 56, .int 0, .int 0, .ref 57, .int 0, .int 0, .int 0, .int 0, .ref 58, .int 0, .ref 59, .ref 60, .ref 61, .ref 62, .int 0, .ref 63, .ref 64, .int 0, .int 0, .int 0, .null, .int 0])) (okE_L rfl)
  rw [al_ok (HW_of o22) (fun x hx => by simp at hx; omega) (by omega) (by omega) (by omega)]
  simp only [Option.bind_some, mkc, List.set, Nat.reduceAdd]
  have o23 : OKA 66 _ := OKA.mono_up o22 (e := .inl (0, 16, .inl (fun _ => 0))) (okE_i)
  rw [pV_of (i := 53) (fs := [.ref 54, .ref 55, .ref 56, .int 0, .int 0, .ref 57, .int 0, .int 0, .int 0, .int 0, .ref 58, .int 0, .ref 59, .ref 60, .ref 61, .ref 62, .int 0, .ref 63, .ref 64, .int 0, .int 0, .int 0, .null, .int 0]) (by omega) (by rw [vup_n (by omega), vup_s]) (by simp)]
  simp only [Option.bind_some, mkc, List.set, Nat.reduceAdd]
  have o24 : OKA 66 _ := OKA.up o23 (k := 53) (e := .inr (9, [.ref 54, .ref 55, .ref 56, .int 0, .int 0, .ref 57, .int 0, .int 0, .int 0, .int 0, .ref 58, .int 0, .ref 59, .ref 60, .ref 61, .ref 62, .int 0, .ref 63, .ref 64, .int 0, .int 0, .int 0, .ref 65, .int 0])) (okE_L rfl)
  rw [lane_start (v0 := 53) (a := 55) (fs := [.ref 54, .ref 55, .ref 56, .int 0, .int 0, .ref 57, .int 0, .int 0, .int 0, .int 0, .ref 58, .int 0, .ref 59, .ref 60, .ref 61, .ref 62, .int 0, .ref 63, .ref 64, .int 0, .int 0, .int 0, .ref 65, .int 0]) (by omega) (by omega) (by omega) rfl vup_s (by simp [va_up])]
  simp only [Option.bind_some]
  refine ⟨_, rfl, fun i hi => ?_, fun i a b => ?_⟩
  · rw [vup_n (by omega), vup_n (by omega), vup_n (by omega), vup_n (by omega), vup_n (by omega), vup_n (by omega), vup_n (by omega), vup_n (by omega), vup_n (by omega), vup_n (by omega), vup_n (by omega), vup_n (by omega), vup_n (by omega), vup_n (by omega), vup_n (by omega), vup_n (by omega), vup_n (by omega), vup_n (by omega), vup_n (by omega), vup_n (by omega), vup_n (by omega), vup_n (by omega), vup_n (by omega), vup_n (by omega), vup_n (by omega)]
  · unfold MH mCel
    rcases (show i = 53 ∨ i = 54 ∨ i = 55 ∨ i = 56 ∨ i = 57 ∨ i = 58 ∨ i = 59 ∨ i = 60 ∨ i = 61 ∨ i = 62 ∨ i = 63 ∨ i = 64 ∨ i = 65 by omega) with rfl | rfl | rfl | rfl | rfl | rfl | rfl | rfl | rfl | rfl | rfl | rfl | rfl
    · rfl
    · rw [a0_n (show 54 ≠ 55 by omega)]; rfl
    · simp [va_up, a0_55]
    · rw [a0_n (show 56 ≠ 55 by omega)]; rfl
    · rw [a0_n (show 57 ≠ 55 by omega)]; rfl
    · rw [a0_n (show 58 ≠ 55 by omega)]; rfl
    · rw [a0_n (show 59 ≠ 55 by omega)]; rfl
    · rw [a0_n (show 60 ≠ 55 by omega)]; rfl
    · rw [a0_n (show 61 ≠ 55 by omega)]; rfl
    · rw [a0_n (show 62 ≠ 55 by omega)]; rfl
    · rfl
    · rfl
    · rw [a0_n (show 65 ≠ 55 by omega)]; rfl
