section
theorem gA22_o {r : Nat} (h : r < 4) : gA22 (o3 r) = some (51 + 19 * r) := by
  unfold gA22
  rw [if_neg (ix_ok h (by omega)), o3_nat (by omega)]
end
