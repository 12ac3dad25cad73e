theorem law_pure (L : Nat) (xs : Nat → Int32) (hL : L ≤ 384) : m_L_law L xs (fun _ => .inr (0, [])) = some () := sorry
