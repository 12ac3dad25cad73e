/-! the class: rows to, parts on -/
section Li
variable {N n l a c : Nat} {τ : Hp} {tn : Bool} {gl : Nat → Int32} {P H D : Nat} {kd : Nat → Nat}
def wOn (P H D : Nat) (kd : Nat → Nat) (Wn : Nat → Nat) (o d p : Nat) (stk : Bool) (z : Nat) : Nat := if ((pgx z d == p) && (!stk || (cMv P H D kd (z + o) == 0))) = true then Wn z else 0
theorem won_18 (h : LYX N τ n l tn gl P H D kd a c) {W C : Nat → Int64} {Wn : Nat → Nat} {o d p : Nat} (ho : o = 0 ∨ o = 4096) (hd : d < 6) (hp : p < 4) (hW : WtC W Wn) (hB : ∀ x, x < 4 ^ D → Wn x < 2 ^ 60) (stk : Bool) : ∀ (r t x : Nat) (kn : Nat → Int32), x + r = 4 ^ D → r < t → KN P H D kd kn → ∃ kn', L_X3_weightsOn_18 N l (nI d) (nI p) (bI stk) (nI (4 ^ D)) t (LH τ n l kn a c W C (nI o)) (lN (sgm (wOn P H D kd Wn o d p stk) x)) (nI x) = some (lN (sgm (wOn P H D kd Wn o d p stk) (4 ^ D)), LH τ n l kn' a c W C (nI o)) ∧ KN P H D kd kn' := by
  have h6 : D ≤ 6 := h.2.2.2.2.2.2.2.2.2.2.1
  have h46 := pow4_6 h6
  intro r
  induction r with
  | zero =>
    intro t x kn hx ht hK
    obtain ⟨t, rfl⟩ : ∃ k, t = k + 1 := ⟨t - 1, by omega⟩
    obtain rfl : x = 4 ^ D := by omega
    refine ⟨kn, ?_, hK⟩
    rw [L_X3_weightsOn_18.eq_2]
    by_cases e : (4096 : Int32) ≤ nI (4 ^ D)
    · rw [if_pos e]
    · rw [if_neg e, if_pos (nI_le (Nat.le_refl _) (by omega))]
  | succ r ih =>
    intro t x kn hx ht hK
    obtain ⟨t, rfl⟩ : ∃ k, t = k + 1 := ⟨t - 1, by omega⟩
    have hxD : x < 4 ^ D := by omega
    have hx4 : x < 4096 := by omega
    have hWx := hB x hxD
    have hV := VX_4 h6 hxD ho
    have hm := mms_lt P H D kd (x + o)
    have hc16 := cMv_le P H D kd (x + o)
    have hpx := pgx_lt x d
    rw [L_X3_weightsOn_18.eq_2, if_neg (show ¬ (4096 : Int32) ≤ nI x by rw [show (4096 : Int32) = nI 4096 from rfl, nI_leI (by omega) (by omega)]; omega), if_neg (nI_ge (show x < 4 ^ D from hxD) (by omega)), L_r0 h]
    simp only [Option.bind_some]
    rw [L_aa h hx4, hW x hx4]
    simp only [Option.bind_some]
    rw [nI_1]
    have go : ∀ kn1, KN P H D kd kn1 → ∀ w, w = wOn P H D kd Wn o d p stk x → ∃ kn', L_X3_weightsOn_18 N l (nI d) (nI p) (bI stk) (nI (4 ^ D)) t (LH τ n l kn1 a c W C (nI o)) (lN (sgm (wOn P H D kd Wn o d p stk) x + w)) (nI (x + 1)) = some (lN (sgm (wOn P H D kd Wn o d p stk) (4 ^ D)), LH τ n l kn' a c W C (nI o)) ∧ KN P H D kd kn' := fun kn1 hk1 w hw => by
      have := ih t (x + 1) kn1 (by omega) (by omega) hk1
      rw [sgm, ← hw] at this
      exact this
    by_cases c0 : Wn x = 0
    · rw [if_pos (show lg_cmp (lN (Wn x)) 0 = 0 from (lcmp_eq (by omega)).mpr c0)]
      exact go kn hK 0 (by unfold wOn; rw [c0]; split <;> rfl)
    · rw [if_neg (show ¬ lg_cmp (lN (Wn x)) 0 = 0 from fun e => c0 ((lcmp_eq (by omega)).mp e)), peg_bits (by omega) (by omega)]
      by_cases c1 : pgx x d = p
      · rw [if_pos (show nI (pgx x d) = nI p by rw [c1])]
        have e1 : (pgx x d == p) = true := beq_iff_eq.mpr c1
        cases stk with
        | false =>
          rw [if_pos (show bI false = 0 from rfl), lN_add]
          exact go kn hK (Wn x) (by unfold wOn; rw [e1]; rfl)
        | true =>
          rw [if_neg (show ¬ bI true = 0 by decide +kernel), L_r2 h, L_i3 h]
          simp only [Option.bind_some]
          rw [or_od hx4 ho]
          obtain ⟨kn1, k1, k2⟩ := movesAt_ok (LH_ne h (kn := kn) (W := W) (C := C) (od := nI o)) h.2.2.2.2.2.2 hK hV.1
          rw [k1, LH_ukn]
          simp only [Option.bind_some]
          have hcz : mms P H D kd (x + o) = 0 ↔ cMv P H D kd (x + o) = 0 := by
            constructor
            · intro e; unfold cMv; rw [e]; decide
            · intro e
              by_cases c2 : mms P H D kd (x + o) = 0
              · exact c2
              · exfalso
                have hf := mms_fam (P := P) (H := H) (D := D) (kd := kd) (x := x + o)
                apply c2
                apply Nat.eq_of_testBit_eq
                intro k
                rw [Nat.zero_testBit]
                cases ek : (mms P H D kd (x + o)).testBit k with
                | false => rfl
                | true =>
                  have hk16 : k < 16 := ((lgl_iff P H D kd (x + o) k).mp ek).1
                  have := sgm_term (f := fun k => if lgl P H D kd (x + o) k then 1 else 0) 16 hk16
                  rw [cMv_ok, e] at this
                  have hl : lgl P H D kd (x + o) k = true := ek
                  simp only [hl, if_true] at this
                  omega
          by_cases c2 : mms P H D kd (x + o) = 0
          · rw [if_pos (show nI (mms P H D kd (x + o)) = 0 by rw [c2]; rfl), L_r0 h]
            simp only [Option.bind_some]
            rw [L_aa h hx4, hW x hx4]
            simp only [Option.bind_some]
            rw [lN_add]
            exact go kn1 k2 (Wn x) (by unfold wOn; rw [e1, hcz.mp c2]; rfl)
          · rw [if_neg (nI_ne0 (by omega) (by omega))]
            have e2 : (cMv P H D kd (x + o) == 0) = false := beq_eq_false_iff_ne.mpr (fun e => c2 (hcz.mpr e))
            exact go kn1 k2 0 (by unfold wOn; rw [e1, e2]; rfl)
      · rw [if_neg (show ¬ nI (pgx x d) = nI p from fun e => c1 ((nI_eq (by omega) (by omega)).mp e))]
        have e1 : (pgx x d == p) = false := beq_eq_false_iff_ne.mpr c1
        exact go kn hK 0 (by unfold wOn; rw [e1]; rfl)
theorem weightsOn_ok (h : LYX N τ n l tn gl P H D kd a c) {kn : Nat → Int32} {W C : Nat → Int64} {Wn : Nat → Nat} {o d p : Nat} (ho : o = 0 ∨ o = 4096) (hd : d < 6) (hp : p < 4) (hK : KN P H D kd kn) (hW : WtC W Wn) (hB : ∀ x, x < 4 ^ D → Wn x < 2 ^ 60) (stk : Bool) : ∃ kn', m_X3_weightsOn N (LH τ n l kn a c W C (nI o)) l (nI d) (nI p) (bI stk) = some (lN (sgm (wOn P H D kd Wn o d p stk) (4 ^ D)), LH τ n l kn' a c W C (nI o)) ∧ KN P H D kd kn' := by
  have h6 : D ≤ 6 := h.2.2.2.2.2.2.2.2.2.2.1
  have h46 := pow4_6 h6
  unfold m_X3_weightsOn
  rw [L_rv h, L_r2 h]
  simp only [Option.bind_some]
  rw [L_n0 h]
  simp only [Option.bind_some]
  rw [arrs_ok (L_law h) h.2.2.2.2.2.2.2.1 h6]
  simp only [Option.bind_some]
  obtain ⟨kn', k1, k2⟩ := won_18 h ho hd hp hW hB stk (C := C) (4 ^ D) fu 0 kn (by omega) (by show _ < 20000; omega) hK
  rw [nI_0, show lN (sgm (wOn P H D kd Wn o d p stk) 0) = 0 from rfl] at k1
  rw [k1]
  exact ⟨kn', rfl, k2⟩
/-- the moves' sum in the class's graph -/
theorem stz_eq {ch : Bool} {o z : Nat} (hz : z < 4096) (ho : o = 0 ∨ (o = 4096 ∧ tn = true)) (v : Nat → Nat) : stz P H D kd ch o (fun y => v (y + odN tn o)) z = sgm (fun k => if lgl P H D kd (z + o) k then byw (cMv P H D kd) ch (z + o) * v (cnx tn H D kd (z + o) k) else 0) 16 := by
  unfold stz
  refine sgm_congr 16 (fun k _ => ?_)
  by_cases e : lgl P H D kd (z + o) k = true
  · rw [if_pos e, if_pos e, cnx_od hz ho e]
  · rw [if_neg e, if_neg e]
/-- behind k moves -/
def LK' (tn : Bool) (P H D : Nat) (kd : Nat → Nat) (ch : Bool) (s0 k : Nat) (Wn : Nat → Nat) (o pt : Nat) (v : Nat → Nat) : Prop := (∀ r, pt * 60 ^ r + dot (4 ^ D) Wn (fun z => stps (lgl P H D kd) (cnx tn H D kd) (cMv P H D kd) ch v r (z + o)) = stps (lgl P H D kd) (cnx tn H D kd) (cMv P H D kd) ch v (r + k) s0) ∧ dot (4 ^ D) Wn (fun _ => 1) ≤ (if ch then 60 else 16) ^ k
theorem LK'.bd {ch : Bool} {s0 k : Nat} {Wn : Nat → Nat} {o pt : Nat} {v : Nat → Nat} (h : LK' tn P H D kd ch s0 k Wn o pt v) (hk : (if ch then 60 else 16) ^ k < 2 ^ 60) : ∀ x, x < 4 ^ D → Wn x < 2 ^ 60 := fun x hx => by
  have h1 := dot_term (W := Wn) (v := fun _ => 1) hx
  rw [Nat.mul_one] at h1
  exact Nat.lt_of_le_of_lt (Nat.le_trans h1 h.2) hk
theorem LK'.nextF (h46 : 4 ^ D ≤ 4096) {s0 k : Nat} {Wn M' : Nat → Nat} {o : Nat} {v : Nat → Nat} (ho : o = 0 ∨ (o = 4096 ∧ tn = true)) (h : LK' tn P H D kd false s0 k Wn o 0 v) (hs : ∀ v, dot (4 ^ D) M' v = dot (4 ^ D) Wn (stz P H D kd false o v)) : LK' tn P H D kd false s0 (k + 1) M' (odN tn o) 0 v := by
  refine ⟨fun r => ?_, ?_⟩
  · rw [hs, Nat.zero_mul, Nat.zero_add]
    have := h.1 (r + 1)
    rw [Nat.zero_mul, Nat.zero_add] at this
    rw [show r + (k + 1) = r + 1 + k by omega, ← this]
    refine dot_congr (fun z hz => ?_)
    rw [stz_eq (by omega) ho, stps, stp]
    simp only [Bool.false_and, Bool.false_eq_true, if_false, Nat.zero_add]
  · rw [hs, Nat.pow_succ]
    refine Nat.le_trans (dot_le (c := 16) (fun z _ => ?_)) (Nat.mul_le_mul_right _ h.2)
    unfold stz byw
    simp only [Bool.false_eq_true, if_false, Nat.one_mul]
    have := cMv_ok P H D kd (z + o)
    rw [show sgm (fun k => if lgl P H D kd (z + o) k then 1 else 0) 16 = cMv P H D kd (z + o) from this]
    exact cMv_le P H D kd (z + o)
theorem LK'.nextT (h46 : 4 ^ D ≤ 4096) {s0 k : Nat} {Wn M' : Nat → Nat} {o pt d p : Nat} (hd : d < 6) (ho : o = 0 ∨ (o = 4096 ∧ tn = true)) (h : LK' tn P H D kd true s0 k Wn o pt (fun x => if pgx x d == p then 1 else 0)) (hs : ∀ v, dot (4 ^ D) M' v = dot (4 ^ D) Wn (stz P H D kd true o v)) : LK' tn P H D kd true s0 (k + 1) M' (odN tn o) (60 * (pt + sgm (wOn P H D kd Wn o d p true) (4 ^ D))) (fun x => if pgx x d == p then 1 else 0) := by
  refine ⟨fun r => ?_, ?_⟩
  · rw [hs, show r + (k + 1) = r + 1 + k by omega, ← h.1 (r + 1)]
    have e : dot (4 ^ D) Wn (fun z => stps (lgl P H D kd) (cnx tn H D kd) (cMv P H D kd) true (fun x => if pgx x d == p then 1 else 0) (r + 1) (z + o)) = 60 ^ (r + 1) * sgm (wOn P H D kd Wn o d p true) (4 ^ D) + dot (4 ^ D) Wn (stz P H D kd true o (fun y => stps (lgl P H D kd) (cnx tn H D kd) (cMv P H D kd) true (fun x => if pgx x d == p then 1 else 0) r (y + odN tn o))) := by
      unfold dot
      rw [← sgm_mul, ← sgm_add]
      refine sgm_congr (4 ^ D) (fun z hz => ?_)
      show Wn z * stps (lgl P H D kd) (cnx tn H D kd) (cMv P H D kd) true (fun x => if pgx x d == p then 1 else 0) (r + 1) (z + o) = 60 ^ (r + 1) * wOn P H D kd Wn o d p true z + Wn z * stz P H D kd true o (fun y => stps (lgl P H D kd) (cnx tn H D kd) (cMv P H D kd) true (fun x => if pgx x d == p then 1 else 0) r (y + odN tn o)) z
      rw [stz_eq (by omega) ho, stps, stp, Nat.mul_add]
      congr 1
      unfold wOn
      have hpg : pgx (z + o) d = pgx z d := by rw [← pgx_mod (x := z + o) hd, show (z + o) % 4096 = z by omega]
      by_cases c0 : cMv P H D kd (z + o) = 0
      · have e0 : (cMv P H D kd (z + o) == 0) = true := beq_iff_eq.mpr c0
        rw [e0, if_pos (show (true && true) = true from rfl), stps_stuck (cMv_ok P H D kd (z + o)) c0]
        show Wn z * (60 * (60 ^ r * (if pgx (z + o) d == p then 1 else 0))) = _
        rw [hpg]
        cases ep : pgx z d == p with
        | true =>
          rw [if_pos rfl, if_pos (show (true && (!true || true)) = true from rfl), Nat.pow_succ, Nat.mul_one]
          rw [Nat.mul_comm (Wn z), Nat.mul_comm (60 ^ r) 60]
        | false => rw [if_neg (by decide), if_neg (show ¬ (false && (!true || true)) = true by decide)]; simp
      · have e0 : (cMv P H D kd (z + o) == 0) = false := beq_eq_false_iff_ne.mpr c0
        rw [e0, if_neg (show ¬ (true && false) = true by decide), Nat.mul_zero]
        cases pgx z d == p with
        | true => rw [if_neg (show ¬ (true && (!true || false)) = true by decide), Nat.mul_zero]
        | false => rw [if_neg (show ¬ (false && (!true || false)) = true by decide), Nat.mul_zero]
    rw [e, Nat.pow_succ]
    have e2 : 60 * (pt + sgm (wOn P H D kd Wn o d p true) (4 ^ D)) * 60 ^ r = pt * (60 ^ r * 60) + 60 ^ r * 60 * sgm (wOn P H D kd Wn o d p true) (4 ^ D) := by
      rw [Nat.mul_add, Nat.add_mul]
      congr 1
      · rw [Nat.mul_comm 60 pt, Nat.mul_assoc, Nat.mul_comm 60]
      · rw [Nat.mul_comm (60 * _), ← Nat.mul_assoc]
    omega
  · rw [hs, Nat.pow_succ]
    refine Nat.le_trans (dot_le (c := 60) (fun z _ => ?_)) (Nat.mul_le_mul_right _ h.2)
    unfold stz
    simp only [Nat.mul_one]
    rw [sgm_cnt, cMv_ok]
    unfold byw
    rw [if_pos rfl]
    exact Nat.mul_div_le 60 _
end Li
