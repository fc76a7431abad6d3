section
theorem eD_mS {S : fS} {i w u : Int32} : eD S (mS S i w u) := by
  unfold mS
  exact ((eD_pI (by unfold wR; omega)).tr (eD_pI (by unfold wR; omega))).tr (eD_pI (by unfold wR; omega))
end
