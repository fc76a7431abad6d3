section
theorem scM_cg {I J : Nat → Int32} {A B : Nat → Int64} {s : Sn} (hN : okN s) (h : scM I A s) (h1 : ∀ k, k < 158 → J k = I k) (h2 : ∀ k, k < 8 → B k = A k) : scM J B s := by
  obtain ⟨n1, n2, n3, n4, n5, n6⟩ := hN
  obtain ⟨a, b, c, d⟩ := h
  have h8 := n5.1
  have h12 := n6.1
  refine ⟨twM_eq n1 n2 a (fun k hk => h1 k (by omega)), ⟨(h1 _ (by omega)).trans b.1, (h1 _ (by omega)).trans b.2.1, fun k hk => ?_⟩, ⟨(h1 _ (by omega)).trans c.1, fun k hk => ?_⟩, ?_⟩
  · obtain ⟨e1, e2, e3, e4, e5⟩ := b.2.2 k hk
    exact ⟨(h1 _ (by omega)).trans e1, (h1 _ (by omega)).trans e2, (h1 _ (by omega)).trans e3, (h1 _ (by omega)).trans e4, (h2 _ (by omega)).trans e5⟩
  · obtain ⟨e1, e2, e3⟩ := c.2 k hk
    exact ⟨(h1 _ (by omega)).trans e1, (h1 _ (by omega)).trans e2, (h1 _ (by omega)).trans e3⟩
  · rw [h1 5 (by omega)]; exact d
end
