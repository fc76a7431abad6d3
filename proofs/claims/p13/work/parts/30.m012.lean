section
theorem pk_cg {t t' : Nat → Int32} {i i' : Nat} : ∀ k, (∀ m, m < k → t (i + m) = t' (i' + m)) → pk t i k = pk t' i' k := by
  intro k
  induction k with
  | zero => intro _; rfl
  | succ k ih =>
    intro h
    show pk t i k * 256 + (t (i + k)).toInt.toNat = pk t' i' k * 256 + (t' (i' + k)).toInt.toNat
    rw [ih (fun m hm => h m (by omega)), h k (by omega)]
end
