theorem law_T (L : Nat) (xs : Nat → Int32) (hL : L ≤ 3072) : T 60 (600000, 7302250, 0, 0) mL_law 0 [some (vR 62), none, none, none] [] (h_0 L xs) (fun r _ => r = some (vI 1)) := sorry
