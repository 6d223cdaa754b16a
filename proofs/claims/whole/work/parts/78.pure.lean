/-! THE PURE STATEMENT: the law's run answers 1 and stays in the room -/
theorem hp_slM {M : mS} (hL : ML M) : ((hpM M).map a_size).sum ≤ 3000 := by
  obtain ⟨l1, l2, l3, l4, l5, l6, l7, l8, l9, l10, l11⟩ := hL
  simp only [hpM, List.map_cons, List.map_nil, List.sum_cons, List.sum_nil, a_size, List.length_map, List.length_cons, List.length_nil]
  omega
theorem hp_slC {S : cS} (h : CW S) : ((hpC S).map a_size).sum ≤ 30000 := by
  obtain ⟨⟨c1, c2, ⟨c3, c4, c5⟩⟩, ⟨⟨⟨d1, d2, d3, d4⟩, d5, d6, d7, d8⟩, _, ⟨⟨e1, e2, e3, e4⟩, e5, e6, e7, e8⟩, _, _⟩, ⟨⟨f1, f2, f3, f4⟩, _, hp9, hi9⟩, _, ⟨g1, g2, g3⟩, ⟨g4, g5, _⟩⟩ := h
  obtain ⟨p0a, p0b, p0c, p0d⟩ := (hp9 0).1
  obtain ⟨p1a, p1b, p1c, p1d⟩ := (hp9 1).1
  obtain ⟨p2a, p2b, p2c, p2d⟩ := (hp9 2).1
  obtain ⟨p3a, p3b, p3c, p3d⟩ := (hp9 3).1
  obtain ⟨p4a, p4b, p4c, p4d⟩ := (hp9 4).1
  obtain ⟨p5a, p5b, p5c, p5d⟩ := (hp9 5).1
  obtain ⟨p6a, p6b, p6c, p6d⟩ := (hp9 6).1
  obtain ⟨p7a, p7b, p7c, p7d⟩ := (hp9 7).1
  obtain ⟨p8a, p8b, p8c, p8d⟩ := (hp9 8).1
  obtain ⟨p9a, p9b, p9c, p9d⟩ := (hp9 9).1
  obtain ⟨i0a, i0b, i0c, i0d⟩ := (hi9 0).1
  obtain ⟨i1a, i1b, i1c, i1d⟩ := (hi9 1).1
  simp only [hpC, List.map_cons, List.map_nil, List.sum_cons, List.sum_nil, a_size, List.length_map, List.length_cons, List.length_nil]
  omega
theorem hp_sl {S : cS} {M : mS} (h : Inv S M) : a_sl (hp S M) ≤ 7302250 := by
  have h1 := hp_slC h.1
  have h2 := hp_slM h.2.1.1
  show ((hpC S ++ hpM M).map a_size).sum ≤ 7302250
  rw [List.map_append, List.sum_append]
  omega
theorem pure_all : a_pure := by
  intro xs hl
  obtain ⟨S', M', h, n, hn⟩ := law_all xs hl
  refine ⟨n, hp S' M', ?_, ?_, hp_sl h⟩
  · rw [hn]
    rfl
  · rw [hp_len]
    decide
