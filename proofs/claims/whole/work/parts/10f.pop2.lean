section POP
variable {E : gk_E} {dd : Nat}
theorem c_bitCountL {x : Nat} (hx : x < 2 ^ 64) {h : gk_H} {K : Int32 → gk_H → Prop} (k : K (nI (pop x 64)) h) : RnI E mJ13_bitCount_95d88 (dd, 0, 0) [.long (lN x)] h K := by
  sorry
end POP
