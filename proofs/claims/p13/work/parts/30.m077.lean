section
variable {S : fS} {n : Nat} {s f : Int32}
theorem ct_addStair {a b c : Int32} {p : Int64} {k : Nat} {i : Int32} (hk : S.1 24 7 = o3 k) (h12 : k < 12) : f_X8_addStair 24 a b c p (tS S i s f) = some (tS (upS S k a b c p) i s f) := by
  unfold f_X8_addStair
  rw [tS_ne (by decide), hk, if_neg (show ¬ (12 : Int32) ≤ o3 _ from fun q => by have := (o3_le (a := 12) (by omega) (by omega)).mp q; omega)]
  rw [sI_o (by omega) (by omega), bd_some, tS_pI (by decide), tS_ne (by decide), show (pI S (24 + 2) k a).1 24 7 = S.1 24 7 from rfl, hk]
  rw [sI_o (by omega) (by omega), bd_some, tS_pI (by decide), tS_ne (by decide), show (pI (pI S (24 + 2) k a) (24 + 3) k b).1 24 7 = S.1 24 7 from rfl, hk]
  rw [sI_o (by omega) (by omega), bd_some, tS_pI (by decide), tS_ne (by decide), show (pI (pI (pI S (24 + 2) k a) (24 + 3) k b) (24 + 4) k c).1 24 7 = S.1 24 7 from rfl, hk]
  rw [sL_o (by omega) (by omega), bd_some, tS_pL, tS_ne (by decide), show (pL (pI (pI (pI S (24 + 2) k a) (24 + 3) k b) (24 + 4) k c) (24 + 5) k p).1 24 7 = S.1 24 7 from rfl, hk, bd_some, tS_pI (by decide), o3_s]
  rfl
end
