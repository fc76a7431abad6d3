section
theorem rd_eq {S : fS} : f_X11_readsAll S = ((sI S 148 7 (S.1 145 16) (0 : Int32)).bind fun S1 =>
  (some (pI S1 145 19 (0 : Int32))).bind fun S4 =>
  (some (pI S4 145 13 (0 : Int32))).bind fun S7 =>
  (some (pI S7 145 14 (0 : Int32))).bind fun S10 =>
  (some (pI S10 145 17 (0 : Int32))).bind fun S13 =>
  (f_X11_clauseHere S13).bind fun q16 => lp_X11_readsAll_35 rdK FU q16.1 q16.2) := rfl
end
