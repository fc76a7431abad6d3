section
variable {S : fS} {n : Nat} {s f : Int32}
theorem ct_addThing {a : Int32} {k : Nat} {i : Int32} (hk : S.1 31 5 = o3 k) (h8 : k < 8) : f_X0_addThing 31 a (tS S i s f) = some (tS (upT S k a) i s f) := by
  unfold f_X0_addThing f_X0_putOn
  rw [tS_ne (by decide), hk, if_neg (show ¬ (8 : Int32) ≤ o3 _ from fun q => by have := (o3_le (a := 8) (by omega) (by omega)).mp q; omega)]
  rw [sI_o (by omega) (by omega), bd_some, tS_pI (by decide), sI_o (by omega) (by omega), bd_some, tS_pI (by decide), sI_o (by omega) (by omega), bd_some, tS_pI (by decide), sI_o (by omega) (by omega), bd_some, tS_pI (by decide), bd_some, tS_ne (by decide)]
  rw [show (pI (pI (pI (pI S (31 + 1) k a) (31 + 2) k (-1)) (31 + 3) k 0) (31 + 4) k (-1)).1 31 5 = S.1 31 5 from rfl, hk, sL_o (by omega) (by omega), bd_some, tS_pL, tS_ne (by decide), bd_some, tS_pI (by decide)]
  rw [show (pL (pI (pI (pI (pI S (31 + 1) k a) (31 + 2) k (-1)) (31 + 3) k 0) (31 + 4) k (-1)) (31 + 5) k 0).1 31 5 = S.1 31 5 from rfl, hk, o3_s]
  rfl
end
