section
theorem t_32 (a1 : Int32) (S : fS) (hR : Rel S) : ∃ r r' S1 S2, f_X10_seed a1 S = some (r, S1) ∧ f_X11_seed a1 S1 = some (r', S2) ∧ Rel S2 := by
  have hR0 := hR
  obtain ⟨n, s, L, M, hT, hS, hL, hM⟩ := hR
  unfold f_X10_seed
  by_cases h : (0 : Int32) ≤ a1
  · rw [if_pos h, bd_some]
    have h' : 0 ≤ a1.toInt := by have := ni_le.mp h; rw [ni_0] at this; exact this
    refine ⟨_, S.1 157 5, pI S 3 3 a1, pI (pI S 3 3 a1) 157 5 a1, rfl, ?_, n, s, L, M, ?_, ?_, ?_, ?_⟩
    · unfold f_X11_seed
      rw [if_pos h, show (5 : Int32) = o3 5 from rfl, gI_o (by omega) (by omega), bd_some, sI_o (by omega) (by omega), bd_some, pI_ne (by omega)]
    · exact rTp_eq hT (by rw [pI_ne (by omega), pI_ne (by omega)]) (by rw [pI_ne (by omega), pI_ne (by omega)]) (fun k => by rw [pI_ne (by omega), pI_ne (by omega)]) (fun k => by rw [pI_ne (by omega), pI_ne (by omega)])
    · obtain ⟨hN, hC, hMm, hd⟩ := hS
      refine ⟨hN, scC_eq hC (fun a k _ _ => by rw [pI_ne (by omega), pI_ne (by omega)]) (fun _ _ _ _ => rfl) (by rw [pI_ne (by omega), pI_eq]; exact h'), ?_, rHm_eq hd (fun _ => rfl)⟩
      obtain ⟨m1, m2, m3, m4⟩ := hMm
      have h8 := hN.2.2.2.2.1.1
      have h12 := hN.2.2.2.2.2.1
      refine ⟨twM_eq hN.1 hN.2.1 m1 (fun k hk => by rw [pI_ne (by omega), pI_ne (by omega)]), ⟨?_, ?_, fun k hk => ?_⟩, ⟨?_, fun k hk => ?_⟩, ?_⟩
      · rw [pI_ne (by omega), pI_ne (by omega)]; exact m2.1
      · rw [pI_ne (by omega), pI_ne (by omega)]; exact m2.2.1
      · rw [pI_ne (by omega), pI_ne (by omega), pI_ne (by omega), pI_ne (by omega), pI_ne (by omega), pI_ne (by omega), pI_ne (by omega), pI_ne (by omega)]; exact m2.2.2 k hk
      · rw [pI_ne (by omega), pI_ne (by omega)]; exact m3.1
      · rw [pI_ne (by omega), pI_ne (by omega), pI_ne (by omega), pI_ne (by omega), pI_ne (by omega), pI_ne (by omega)]; exact m3.2 k hk
      · rw [pI_eq]; exact h'
    · exact rRu_eq hL (by rw [pI_ne (by omega), pI_ne (by omega)]) (by rw [pI_ne (by omega), pI_ne (by omega)]) (fun a k _ _ _ => by rw [pI_ne (by omega), pI_ne (by omega)]) (fun a k _ => by rw [pI_ne (by omega), pI_ne (by omega)])
    · exact rIm_eq hM (fun a k _ _ => by rw [pI_ne (by omega), pI_ne (by omega)]) (fun _ _ _ _ => rfl) (fun k => by rw [pI_ne (by omega), pI_ne (by omega)]) (fun _ => rfl) (fun k => by rw [pI_ne (by omega), pI_ne (by omega)])
  · rw [if_neg h]
    refine ⟨-1, -1, S, S, rfl, ?_, hR0⟩
    unfold f_X11_seed
    rw [if_neg h]
end
