/-! how many bits: wells beside a cell, up to three cells, forks -/
def selM (w hh c way : Int) (b : Bool) : Int32 := if nb w hh c way = -1 then ii 0 else if b then bitI (nb w hh c way) else ii 0
def selN (w hh c way : Int) (b : Bool) : Int := if nb w hh c way = -1 then 0 else if b then 1 else 0
theorem pc_six : ∀ n : Nat, n < 64 → p_Int_bitCount (mkI (fun i => n.testBit i) 6) = ii (sumN (fun i => if n.testBit i then 1 else 0) 6) := by decide +kernel
theorem pc_grid1 : ∀ w : Nat, w < 7 → ∀ hh : Nat, hh < 6 → ∀ c : Nat, c < w * hh → ∀ s : Nat, s < 16 → p_Int_bitCount ((((ii 0 ||| selM w hh c 0 (s.testBit 0)) ||| selM w hh c 1 (s.testBit 1)) ||| selM w hh c 2 (s.testBit 2)) ||| selM w hh c 3 (s.testBit 3)) = ii (selN w hh c 0 (s.testBit 0) + selN w hh c 1 (s.testBit 1) + selN w hh c 2 (s.testBit 2) + selN w hh c 3 (s.testBit 3)) := by decide +kernel
