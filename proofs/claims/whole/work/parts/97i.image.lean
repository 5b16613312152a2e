theorem c_image {mx mm : zM} (h : IvW mx mm) : Alk (f_PA_image mx) (f_MO_image mm) := by
  obtain ⟨hc, hn | ⟨P, N, W, D, pr, sp, b, ht⟩⟩ := id h
  · unfold f_PA_image f_MO_image
    rw [if_pos hn.1, if_pos hn.2.1]
    exact ok_mk (ok_mk ⟨rfl, h⟩)
  · have h1 := ht.1.1.1
    have p3 := h1.1.2.1
    obtain ⟨⟨x, rx, wx, wm⟩, _⟩ := ht.2.2.1
    obtain ⟨c1, c2, c3, c4, n0, hn0, c5, c6, c7⟩ := hc
    refine ok_mo (imageX h1 ht.1.2.1 ht.1.2.2.2.1 rx.1 wx ht.1.2.2.1 c5 (by omega)) (fun p ⟨fx, x1, x2⟩ => ok_mo (imageM h1 ht.2.1.2.1 rx.1 wm ht.2.1.1) (fun q ⟨fm, m1, m2⟩ => ⟨x1.trans m1.symm, ?_⟩))
    refine IvC h ⟨?_, ?_, ?_, ?_, 4 * P 3 + 2, by omega, x2.1, m2.1, fun j hj => (x2.2 j hj).trans (m2.2 j hj).symm⟩ fx fm (by decide) (by decide) (by decide) (by decide) (by decide) (by decide) (by decide) (by decide) (by decide) (by decide) (by decide) (by decide) (by decide) (by decide) (by decide)
    · rw [fl2_i fx (by decide), fl2_i fm (by decide), fl2_ic fx (fun j => by simp [inS]), fl2_ic fm (fun j => by simp [inS])]; exact c1
    · rw [fl2_ic fx (fun j => by simp [inS]), fl2_ic fm (fun j => by simp [inS])]; exact c2
    · exact CoF_f c3 fx fm (by decide) (by decide)
    · rw [fl2_j fx (by decide), fl2_j fm (by decide)]; exact c4
