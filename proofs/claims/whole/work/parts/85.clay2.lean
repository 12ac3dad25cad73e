/-! the class: layers go on -/
/-- one move ahead from arrangements of one parity -/
def stz (P H D : Nat) (kd : Nat → Nat) (ch : Bool) (o : Nat) (v : Nat → Nat) (z : Nat) : Nat := sgm (fun k => if lgl P H D kd (z + o) k then byw (cMv P H D kd) ch (z + o) * v (bhd H D kd (z + o) k % 4096) else 0) 16
section Lh
variable {N n l a c : Nat} {τ : Hp} {tn : Bool} {gl : Nat → Int32} {P H D : Nat} {kd : Nat → Nat}
theorem or_od {x o : Nat} (hx : x < 4096) (ho : o = 0 ∨ o = 4096) : nI x ||| nI o = nI (x + o) := by
  rw [ni_or]
  rcases ho with rfl | rfl
  · rw [Nat.or_zero, Nat.add_zero]
  · rw [or4096 hx]
theorem go_21 (h : LYX N τ n l tn gl P H D kd a c) {W : Nat → Int64} {Wn : Nat → Nat} {o : Nat} (ho : o = 0 ∨ o = 4096) (hW : WtC W Wn) (hB : ∀ x, x < 4 ^ D → Wn x < 2 ^ 60) (ch : Bool) : ∀ (r t x : Nat) (kn : Nat → Int32) (C : Nat → Int64) (M : Nat → Nat), x + r = 4 ^ D → r < t → KN P H D kd kn → WtC C M → (∀ v, dot (4 ^ D) M v = sgm (fun z => Wn z * stz P H D kd ch o v z) x) → ∃ kn' C' M', L_X3_goOn_21 N l (bI ch) (nI (4 ^ D)) t (LH τ n l kn a c W C (nI o)) (nI x) = some (LH τ n l kn' a c W C' (nI o)) ∧ KN P H D kd kn' ∧ WtC C' M' ∧ ∀ v, dot (4 ^ D) M' v = dot (4 ^ D) Wn (stz P H D kd ch o v) := by
  have h6 : D ≤ 6 := h.2.2.2.2.2.2.2.2.2.2.1
  have h46 := pow4_6 h6
  intro r
  induction r with
  | zero =>
    intro t x kn C M hx ht hK hM hd
    obtain ⟨t, rfl⟩ : ∃ k, t = k + 1 := ⟨t - 1, by omega⟩
    obtain rfl : x = 4 ^ D := by omega
    refine ⟨kn, C, M, ?_, hK, hM, hd⟩
    rw [L_X3_goOn_21.eq_2]
    by_cases e : (4096 : Int32) ≤ nI (4 ^ D)
    · rw [if_pos e]
    · rw [if_neg e, if_pos (nI_le (Nat.le_refl _) (by omega))]
  | succ r ih =>
    intro t x kn C M hx ht hK hM hd
    obtain ⟨t, rfl⟩ : ∃ k, t = k + 1 := ⟨t - 1, by omega⟩
    have hxD : x < 4 ^ D := by omega
    have hx4 : x < 4096 := by omega
    have hWx := hB x hxD
    have hV := VX_4 h6 hxD ho
    have hm := mms_lt P H D kd (x + o)
    have hc16 := cMv_le P H D kd (x + o)
    rw [L_X3_goOn_21.eq_2, if_neg (show ¬ (4096 : Int32) ≤ nI x by rw [show (4096 : Int32) = nI 4096 from rfl, nI_leI (by omega) (by omega)]; omega), if_neg (nI_ge (show x < 4 ^ D from hxD) (by omega)), L_r0 h]
    simp only [Option.bind_some]
    rw [L_aa h hx4, hW x hx4]
    simp only [Option.bind_some]
    have hnext : ∀ (kn1 : Nat → Int32) (C1 : Nat → Int64) (M1 : Nat → Nat), KN P H D kd kn1 → WtC C1 M1 → (∀ v, dot (4 ^ D) M1 v = dot (4 ^ D) M v + Wn x * stz P H D kd ch o v x) → ∃ kn' C' M', L_X3_goOn_21 N l (bI ch) (nI (4 ^ D)) t (LH τ n l kn1 a c W C1 (nI o)) (nI (x + 1)) = some (LH τ n l kn' a c W C' (nI o)) ∧ KN P H D kd kn' ∧ WtC C' M' ∧ ∀ v, dot (4 ^ D) M' v = dot (4 ^ D) Wn (stz P H D kd ch o v) := fun kn1 C1 M1 g1 g2 g3 => ih t (x + 1) kn1 C1 M1 (by omega) (by omega) g1 g2 (fun v => by rw [g3 v, hd v, sgm])
    by_cases c0 : Wn x = 0
    · rw [if_pos (show lg_cmp (lN (Wn x)) 0 = 0 from (lcmp_eq (by omega)).mpr c0)]
      simp only [Option.bind_some]
      rw [show m_J6_bitCount_0f7a4 0 = some 0 from bcnt_64 0 (by omega)]
      simp only [Option.bind_some, if_true]
      rw [nI_1]
      exact hnext kn C M hK hM (fun v => by rw [c0, Nat.zero_mul, Nat.add_zero])
    · rw [if_neg (show ¬ lg_cmp (lN (Wn x)) 0 = 0 from fun e => c0 ((lcmp_eq (by omega)).mp e)), L_r2 h, L_i3 h]
      simp only [Option.bind_some]
      rw [or_od hx4 ho]
      obtain ⟨kn1, k1, k2⟩ := movesAt_ok (LH_ne h (kn := kn) (W := W) (C := C) (od := nI o)) h.2.2.2.2.2.2 hK hV.1
      rw [k1, LH_ukn]
      simp only [Option.bind_some]
      rw [bcnt_fam mms_fam]
      simp only [Option.bind_some]
      have hcc : cnt (mms P H D kd (x + o)) = cMv P H D kd (x + o) := rfl
      rw [hcc]
      by_cases c1 : cMv P H D kd (x + o) = 0
      · rw [c1, if_pos (show nI 0 = 0 from rfl), nI_1]
        refine hnext kn1 C M k2 hM (fun v => ?_)
        have : stz P H D kd ch o v x = 0 := sgm_zero 16 (fun k hk => by
          have := sgm_term (f := fun k => if lgl P H D kd (x + o) k then 1 else 0) 16 hk
          rw [cMv_ok, c1] at this
          cases e : lgl P H D kd (x + o) k with
          | true => simp only [e, if_true] at this; omega
          | false => rfl)
        rw [this, Nat.mul_zero, Nat.add_zero]
      · rw [if_neg (nI_ne0 (by omega) (by omega))]
        have hz : ((if bI ch = 0 then (gR N (LH τ n l kn1 a c W C (nI o)) l 3 0).bind fun x18 => (aJ N (LH τ n l kn1 a c W C (nI o)) x18 (nI x)).bind fun x19 => some x19 else (gR N (LH τ n l kn1 a c W C (nI o)) l 3 0).bind fun x20 => (aJ N (LH τ n l kn1 a c W C (nI o)) x20 (nI x)).bind fun x21 => (nz (nI (cMv P H D kd (x + o)))).bind fun _ => some (x21 * ((60 / nI (cMv P H D kd (x + o))).toInt64))) : Option Int64) = some (lN (Wn x * byw (cMv P H D kd) ch (x + o))) := by
          rw [L_r0 h]
          simp only [Option.bind_some]
          rw [L_aa h hx4, hW x hx4]
          simp only [Option.bind_some]
          unfold byw
          cases ch with
          | false => rw [if_pos (show bI false = 0 from rfl), if_neg (by decide), Nat.mul_one]
          | true =>
            rw [if_neg (show ¬ bI true = 0 by decide +kernel), if_pos rfl, nz, if_neg (nI_ne0 (by omega) (by omega))]
            simp only [Option.bind_some]
            rw [show (60 : Int32) = nI 60 from rfl, pk_div (by omega) (by omega) (by omega), nI_l (by have := Nat.div_le_self 60 (cMv P H D kd (x + o)); omega), lN_mul]
        rw [hz]
        simp only [Option.bind_some]
        unfold m_X3_hand
        rw [L_rv h]
        simp only [Option.bind_some]
        obtain ⟨C2, M2, g1, g2, g3⟩ := hand_3 (od := nI o) (kn := kn1) (W := W) (wt := Wn x * byw (cMv P H D kd) ch (x + o)) h hx4 ho hV 16 fu 0 C M (by omega) (by decide) hM
        rw [nI_0] at g1
        rw [g1]
        simp only [Option.bind_some]
        rw [nI_1]
        refine hnext kn1 C2 M2 k2 g2 (fun v => ?_)
        have := g3 v
        rw [show sgm (fun k => if lgl P H D kd (x + o) k then Wn x * byw (cMv P H D kd) ch (x + o) * v (bhd H D kd (x + o) k % 4096) else 0) 0 = 0 from rfl, Nat.add_zero] at this
        rw [this]
        congr 1
        unfold stz
        rw [← sgm_mul]
        refine sgm_congr 16 (fun k _ => ?_)
        by_cases e : lgl P H D kd (x + o) k = true
        · rw [if_pos e, if_pos e, Nat.mul_assoc]
        · rw [if_neg e, if_neg e, Nat.mul_zero]
theorem arrs_ok {gg : Nat → Int32} {cc : Nat} {σ : Hp} (hb : BH N σ cc gg) (h1 : gg 1 = nI D) (h6 : D ≤ 6) : m_X2_arrangements N σ cc = some (nI (4 ^ D)) := by
  unfold m_X2_arrangements
  rw [hb.rv, hb.i1, h1]
  simp only [Option.bind_some]
  have h46 := pow4_6 h6
  rw [show (2 : Int32) = nI 2 from rfl, pk_mul, show (1 : Int32) = nI 1 from rfl, ni_shl (by omega) (by rw [Nat.one_mul, ← pow4]; omega), Nat.one_mul, ← pow4]
/-- one move further -/
theorem goOn_ok (h : LYX N τ n l tn gl P H D kd a c) {kn : Nat → Int32} {W C : Nat → Int64} {Wn : Nat → Nat} {o : Nat} (ho : o = 0 ∨ (o = 4096 ∧ tn = true)) (hK : KN P H D kd kn) (hW : WtC W Wn) (hB : ∀ x, x < 4 ^ D → Wn x < 2 ^ 60) (ch : Bool) : ∃ kn' C' M', m_X3_goOn N (LH τ n l kn a c W C (nI o)) l (bI ch) = some (LH τ n l kn' c a C' W (nI (odN tn o))) ∧ KN P H D kd kn' ∧ WtC C' M' ∧ ∀ v, dot (4 ^ D) M' v = dot (4 ^ D) Wn (stz P H D kd ch o v) := by
  have h6 : D ≤ 6 := h.2.2.2.2.2.2.2.2.2.2.1
  have h46 := pow4_6 h6
  have hcN : c < N := by have := h.2.2.1; have := h.2.2.2.1; omega
  have ho' : o = 0 ∨ o = 4096 := ho.imp id And.left
  unfold m_X3_goOn
  rw [L_rv h, L_r1 h]
  simp only [Option.bind_some]
  obtain ⟨g', f1, f2⟩ := fillJ_ok hcN (LH_c h (kn := kn) (W := W) (C := C) (od := nI o))
  rw [f1, LH_uc h]
  simp only [Option.bind_some]
  rw [L_r2 h]
  simp only [Option.bind_some]
  rw [L_n0 h]
  simp only [Option.bind_some]
  rw [arrs_ok (L_law h) h.2.2.2.2.2.2.2.1 h6]
  simp only [Option.bind_some]
  obtain ⟨kn', C', M', g1, g2, g3, g4⟩ := go_21 h ho' hW hB ch (4 ^ D) fu 0 kn g' (fun _ => 0) (by omega) (by show _ < 20000; omega) hK (fun x hx => by rw [f2 x hx]; rfl) (fun v => dot_zero)
  rw [nI_0] at g1
  rw [g1]
  simp only [Option.bind_some]
  rw [L_r0 h, L_r1 h]
  simp only [Option.bind_some]
  have hl : l < N := by have := h.2.2.1; omega
  rw [pV_of (i := l) (fs := [.ref a, .ref c, .ref n, .int (nI o)]) hl (LH_l h) (by simp)]
  simp only [Option.bind_some, List.set]
  rw [pV_of (i := l) (fs := [.ref c, .ref c, .ref n, .int (nI o)]) hl vup_s (by simp), vup_vup]
  simp only [Option.bind_some, List.set]
  rw [show (.inr (3, [.ref c, .ref a, .ref n, .int (nI o)]) : va_E) = lObj c a n (nI o) from rfl, LH_sw h, L_i3 h.sw, L_r2 h.sw]
  simp only [Option.bind_some]
  rw [L_n2 h.sw]
  simp only [Option.bind_some]
  have hod : (nI o ^^^ 4096) &&& tI tn = nI (odN tn o) := by
    unfold odN
    rcases ho with rfl | ⟨rfl, rfl⟩
    · cases tn <;> decide +kernel
    · decide +kernel
  rw [hod, pV_of (i := l) (fs := [.ref c, .ref a, .ref n, .int (nI o)]) hl (LH_l h.sw) (by simp)]
  simp only [Option.bind_some, List.set]
  rw [show (.inr (3, [.ref c, .ref a, .ref n, .int (nI (odN tn o))]) : va_E) = lObj c a n (nI (odN tn o)) from rfl, LH_od h.sw]
  exact ⟨kn', C', M', rfl, g2, g3, g4⟩
end Lh
