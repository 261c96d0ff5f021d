-- `ordered`: codes and orders
def cd (l : List Nat) : Nat := l.foldl (fun c d => 4 * c + d) 0
def dg (n : Nat) (c : Nat) (j : Nat) : Int := iand (ishr (c : Int) (2 * ((n : Int) - 1 - j))) 3
def sdv (c n : Nat) : Int := (F_E_sidesChanged (c : Int) (n : Int)).getD (-7)
theorem sd_some : ∀ n : Nat, n < 5 → 1 ≤ n → ∀ c : Nat, c < 4 ^ n → F_E_sidesChanged (c : Int) (n : Int) = some (sdv c n) := by decide +kernel
theorem codes : ∀ n : Nat, n < 5 → 1 ≤ n → (List.range (4 ^ n)).filter (fun c => decide (sdv c n ≠ -1)) = (List.range (fac n)).map (fun k => cd (prm n k)) := by decide +kernel
theorem code_1 : ∀ n : Nat, n < 5 → 1 ≤ n → ∀ k : Nat, k < fac n → cd (prm n k) < 4 ^ n ∧ sdv (cd (prm n k)) n = tws (gL (prm n k)) n := by decide +kernel
theorem code_2 : ∀ n : Nat, n < 6 → ∀ k : Nat, k < fac n → 0 ≤ tws (gL (prm n k)) n ∧ tws (gL (prm n k)) n ≤ 10 := by decide +kernel
theorem code_3 : ∀ n : Nat, n < 5 → ∀ k : Nat, k < fac n → ∀ j : Nat, j < n → dg n (cd (prm n k)) j = gL (prm n k) j := by decide +kernel
theorem prm_lt : ∀ n : Nat, n < 6 → ∀ k : Nat, k < fac n → ∀ j : Nat, j < n → (prm n k).getD j 0 < n := by decide +kernel
theorem prm_perm : ∀ n : Nat, n < 6 → ∀ k : Nat, k < fac n → (prm n k).isPerm (List.range n) = true := by decide +kernel
