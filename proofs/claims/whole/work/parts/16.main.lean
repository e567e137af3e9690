theorem zmain {L : Nat} {xs : Nat → Int32} (hL : L ≤ 3072) {μ : ZMem} (h : zok μ = true) : ∃ z, fL_b18 L xs 131 FU 0 108 0 μ = some z := sorry
