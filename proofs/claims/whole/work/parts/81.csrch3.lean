/-! the class: searched (third part) -/
theorem okE_6 {N : Nat} {a b c d e : Value} {f : Nat → Int32} (ha : okV N a) (hb : okV N b) (hc : okV N c) (hd : okV N d) (he : okV N e) : okE N (.inr (6, [a, b, c, d, e, .int (f 5), .int (f 6), .int (f 7), .int (f 8), .int (f 9), .int (f 10)])) := okE_o (fun v hv => by
  rcases List.mem_cons.mp hv with rfl | hv
  · exact ha
  rcases List.mem_cons.mp hv with rfl | hv
  · exact hb
  rcases List.mem_cons.mp hv with rfl | hv
  · exact hc
  rcases List.mem_cons.mp hv with rfl | hv
  · exact hd
  rcases List.mem_cons.mp hv with rfl | hv
  · exact he
  rcases List.mem_cons.mp hv with rfl | hv
  · exact trivial
  rcases List.mem_cons.mp hv with rfl | hv
  · exact trivial
  rcases List.mem_cons.mp hv with rfl | hv
  · exact trivial
  rcases List.mem_cons.mp hv with rfl | hv
  · exact trivial
  rcases List.mem_cons.mp hv with rfl | hv
  · exact trivial
  rcases List.mem_cons.mp hv with rfl | hv
  · exact trivial
  exact absurd hv List.not_mem_nil)
/-- a search object whose rows are made one after the other -/
def sOb (a b c d e : Value) : va_E := .inr (6, [a, b, c, d, e, .int 0, .int 0, .int 0, .int 0, .int 0, .int 0])
theorem okE_ob {N : Nat} {a b c d e : Value} (ha : okV N a) (hb : okV N b) (hc : okV N c) (hd : okV N d) (he : okV N e) : okE N (sOb a b c d e) := okE_6 (f := fun _ => 0) ha hb hc hd he
section SM
variable {N m : Nat} {σ : Hp} {u : Nat → Nat → Int32} {R : CR} {bd : AB}
/-- a search is made -/
theorem smake_ok (hN : 66 ≤ N) (hN2 : N < 800000) (hR : R.1 < N ∧ R.2.1 < N ∧ R.2.2 < N) (hok : OK N σ) : ∃ σ1, ((al N (CH σ u R) [0, 0] (0 + 1) (0 + 11) 9 40986).bind fun _ => (mkc (CH σ u R) N (.inr (6, [.null, .null, .null, .null, .null, .int 0, .int 0, .int 0, .int 0, .int 0, .int 0]))).bind fun σ22 => (al (N + 1) σ22 [0, N, 0] (0 + 1 + 5) (0 + 11 + 32774) 9 40986).bind fun _ => (m_X6_init (N + 1) σ22 N).bind fun r25 => (nb r25.1).bind fun _ => (pV r25.1 r25.2 0 8 8 (.ref N)).bind fun σ26 => some (r25.1, σ26)) = some (N + 6, CH σ1 u (R.1, N, R.2.2)) ∧ SE (N + 6) σ1 N (fun _ => 0) (fun _ => 0) (fun _ => 0) (fun _ => 0) (fun _ => 0) (fun _ => 0) ∧ OK (N + 6) σ1 ∧ ∀ i, i < N → σ1 i = σ i := by
  have hRk : ∀ k, R.1 < N + k ∧ R.2.1 < N + k ∧ R.2.2 < N + k := fun k => by omega
  rw [al_ok (CH_HW (u := u) hN hR hok) (fun x hx => by simp at hx; omega) (by omega) (by omega) (by omega)]
  simp only [Option.bind_some, mkc]
  rw [CH_dn (by omega)]
  have ok1 : OK (N + 1) (va_up σ N (sOb .null .null .null .null .null)) := hok.mono_up (okE_ob trivial trivial trivial trivial trivial)
  rw [show (.inr (6, [.null, .null, .null, .null, .null, .int 0, .int 0, .int 0, .int 0, .int 0, .int 0]) : va_E) = sOb .null .null .null .null .null from rfl]
  rw [al_ok (CH_HW (u := u) (by omega) (hRk 1) ok1) (fun x hx => by simp at hx; omega) (by omega) (by omega) (by omega)]
  simp only [Option.bind_some]
  unfold m_X6_init
  rw [al_ok (CH_HW (u := u) (by omega) (hRk 1) ok1) (fun x hx => by simp at hx; omega) (by omega) (by omega) (by omega)]
  simp only [Option.bind_some, mkc]
  rw [CH_dn (by omega)]
  have ok2 := ok1.mono_up (e := bC (fun _ => 0)) okE_b
  rw [show (.inr (2, [.int 0, .int 0, .int 0, .int 0, .int 0, .int 0]) : va_E) = bC (fun _ => 0) from rfl, al_ok (CH_HW (u := u) (by omega) (hRk 2) ok2) (fun x hx => by simp at hx; omega) (by omega) (by omega) (by omega)]
  simp only [Option.bind_some]
  unfold m_X2_init
  simp only [Option.bind_some]
  rw [nb_ok (by omega)]
  simp only [Option.bind_some]
  rw [pV_of (i := N) (fs := [.null, .null, .null, .null, .null, .int 0, .int 0, .int 0, .int 0, .int 0, .int 0]) (by omega) (by rw [CH_ge (by omega), vup_n (by omega), vup_s]; rfl) (by simp), CH_dn (by omega)]
  simp only [Option.bind_some, List.set]
  have ok3 := ok2.up (k := N) (e := sOb (.ref (N + 1)) .null .null .null .null) (okE_ob (show N + 1 < N + 1 + 1 by omega) trivial trivial trivial trivial)
  rw [show (.inr (6, [.ref (N + 1), .null, .null, .null, .null, .int 0, .int 0, .int 0, .int 0, .int 0, .int 0]) : va_E) = sOb (.ref (N + 1)) .null .null .null .null from rfl, al_ok (CH_HW (u := u) (by omega) (hRk 2) ok3) (fun x hx => by simp at hx; omega) (by omega) (by omega) (by omega)]
  simp only [Option.bind_some, mkc]
  rw [CH_dn (by omega), pV_of (i := N) (fs := [.ref (N + 1), .null, .null, .null, .null, .int 0, .int 0, .int 0, .int 0, .int 0, .int 0]) (by omega) (by rw [CH_ge (by omega), vup_n (by omega), vup_s]; rfl) (by simp), CH_dn (by omega)]
  simp only [Option.bind_some, List.set]
  have ok4 := (ok3.mono_up (e := iR (fun _ => 0)) okE_i).up (k := N) (e := sOb (.ref (N + 1)) (.ref (N + 1 + 1)) .null .null .null) (okE_ob (show N + 1 < N + 1 + 1 + 1 by omega) (show N + 1 + 1 < N + 1 + 1 + 1 by omega) trivial trivial trivial)
  rw [show (.inr (6, [.ref (N + 1), .ref (N + 1 + 1), .null, .null, .null, .int 0, .int 0, .int 0, .int 0, .int 0, .int 0]) : va_E) = sOb (.ref (N + 1)) (.ref (N + 1 + 1)) .null .null .null from rfl, show (.inl (0, 8192, .inl (fun _ => 0)) : va_E) = iR (fun _ => 0) from rfl, al_ok (CH_HW (u := u) (by omega) (hRk 3) ok4) (fun x hx => by simp at hx; omega) (by omega) (by omega) (by omega)]
  simp only [Option.bind_some, mkc]
  rw [CH_dn (by omega), pV_of (i := N) (fs := [.ref (N + 1), .ref (N + 1 + 1), .null, .null, .null, .int 0, .int 0, .int 0, .int 0, .int 0, .int 0]) (by omega) (by rw [CH_ge (by omega), vup_n (by omega), vup_s]; rfl) (by simp), CH_dn (by omega)]
  simp only [Option.bind_some, List.set]
  have ok5 := (ok4.mono_up (e := iR (fun _ => 0)) okE_i).up (k := N) (e := sOb (.ref (N + 1)) (.ref (N + 1 + 1)) (.ref (N + 1 + 1 + 1)) .null .null) (okE_ob (show N + 1 < N + 1 + 1 + 1 + 1 by omega) (show N + 1 + 1 < N + 1 + 1 + 1 + 1 by omega) (show N + 1 + 1 + 1 < N + 1 + 1 + 1 + 1 by omega) trivial trivial)
  rw [show (.inr (6, [.ref (N + 1), .ref (N + 1 + 1), .ref (N + 1 + 1 + 1), .null, .null, .int 0, .int 0, .int 0, .int 0, .int 0, .int 0]) : va_E) = sOb (.ref (N + 1)) (.ref (N + 1 + 1)) (.ref (N + 1 + 1 + 1)) .null .null from rfl, al_ok (CH_HW (u := u) (by omega) (hRk 4) ok5) (fun x hx => by simp at hx; omega) (by omega) (by omega) (by omega)]
  simp only [Option.bind_some, mkc]
  rw [CH_dn (by omega), pV_of (i := N) (fs := [.ref (N + 1), .ref (N + 1 + 1), .ref (N + 1 + 1 + 1), .null, .null, .int 0, .int 0, .int 0, .int 0, .int 0, .int 0]) (by omega) (by rw [CH_ge (by omega), vup_n (by omega), vup_s]; rfl) (by simp), CH_dn (by omega)]
  simp only [Option.bind_some, List.set]
  have ok6 := (ok5.mono_up (e := iR (fun _ => 0)) okE_i).up (k := N) (e := sOb (.ref (N + 1)) (.ref (N + 1 + 1)) (.ref (N + 1 + 1 + 1)) (.ref (N + 1 + 1 + 1 + 1)) .null) (okE_ob (show N + 1 < N + 1 + 1 + 1 + 1 + 1 by omega) (show N + 1 + 1 < N + 1 + 1 + 1 + 1 + 1 by omega) (show N + 1 + 1 + 1 < N + 1 + 1 + 1 + 1 + 1 by omega) (show N + 1 + 1 + 1 + 1 < N + 1 + 1 + 1 + 1 + 1 by omega) trivial)
  rw [show (.inr (6, [.ref (N + 1), .ref (N + 1 + 1), .ref (N + 1 + 1 + 1), .ref (N + 1 + 1 + 1 + 1), .null, .int 0, .int 0, .int 0, .int 0, .int 0, .int 0]) : va_E) = sOb (.ref (N + 1)) (.ref (N + 1 + 1)) (.ref (N + 1 + 1 + 1)) (.ref (N + 1 + 1 + 1 + 1)) .null from rfl, al_ok (CH_HW (u := u) (by omega) (hRk 5) ok6) (fun x hx => by simp at hx; omega) (by omega) (by omega) (by omega)]
  simp only [Option.bind_some, mkc]
  rw [CH_dn (by omega), pV_of (i := N) (fs := [.ref (N + 1), .ref (N + 1 + 1), .ref (N + 1 + 1 + 1), .ref (N + 1 + 1 + 1 + 1), .null, .int 0, .int 0, .int 0, .int 0, .int 0, .int 0]) (by omega) (by rw [CH_ge (by omega), vup_n (by omega), vup_s]; rfl) (by simp), CH_dn (by omega)]
  simp only [Option.bind_some, List.set]
  rw [nb_ok (by omega)]
  simp only [Option.bind_some]
  rw [C_p8 (by omega) (by omega)]
  have ok7 := (ok6.mono_up (e := iR (fun _ => 0)) okE_i).up (k := N) (e := sObj N (fun _ => 0)) (okE_s (show N + 5 < N + 1 + 1 + 1 + 1 + 1 + 1 by omega))
  refine ⟨_, rfl, ⟨by omega, vup_s, ?_, ?_, ?_, ?_, ?_⟩, ok7, fun i hi => ?_⟩
  · rw [vup_n (by omega), vup_n (by omega), vup_n (by omega), vup_n (by omega), vup_n (by omega), vup_n (by omega), vup_n (by omega), vup_n (by omega), vup_n (by omega), vup_s]
  · rw [vup_n (by omega), vup_n (by omega), vup_n (by omega), vup_n (by omega), vup_n (by omega), vup_n (by omega), vup_n (by omega), vup_s]
  · rw [vup_n (by omega), vup_n (by omega), vup_n (by omega), vup_n (by omega), vup_n (by omega), vup_s]
  · rw [vup_n (by omega), vup_n (by omega), vup_n (by omega), vup_s]
  · rw [vup_n (by omega), vup_s]
  · rw [vup_n (by omega), vup_n (by omega), vup_n (by omega), vup_n (by omega), vup_n (by omega), vup_n (by omega), vup_n (by omega), vup_n (by omega), vup_n (by omega), vup_n (by omega), vup_n (by omega)]
end SM
