/-- the members of the groups, group by group -/
def mbs (gp sta mem : Nat → Nat) (G : Nat) : Prop := sta 0 = 0 ∧ (∀ g, g < G → sta g ≤ sta (g + 1)) ∧ (∀ g, g < G → ∀ i, sta g ≤ i → i < sta (g + 1) → gp (mem i) = g + 1) ∧ (∀ v, gp v ≠ 0 → ∃ i, sta (gp v - 1) ≤ i ∧ i < sta (gp v) ∧ mem i = v) ∧ ∀ i j, i < sta G → j < sta G → mem i = mem j → i = j
theorem mbs_at {sta : Nat → Nat} {G i : Nat} (h0 : sta 0 = 0) (hi : i < sta G) : ∃ g, g < G ∧ sta g ≤ i ∧ i < sta (g + 1) := by
  induction G with
  | zero => omega
  | succ G ih =>
    by_cases q : i < sta G
    · obtain ⟨g, h1, h2, h3⟩ := ih q
      exact ⟨g, by omega, h2, h3⟩
    · exact ⟨G, by omega, by omega, hi⟩
def mcl (sta mem wt : Nat → Nat) (G wn i : Nat) : Nat := if i < sta G then mem i else wt (wn - 1 - (i - sta G))
theorem mbs_nz {gp sta mem : Nat → Nat} {G i : Nat} (h : mbs gp sta mem G) (hi : i < sta G) : gp (mem i) ≠ 0 := by
  obtain ⟨g, h1, h2, h3⟩ := mbs_at h.1 hi
  rw [h.2.2.1 g h1 i h2 h3]
  omega
theorem mbs_cl {M : Nat} {op : Nat → Prop} {dg : Nat → Nat} {ed : Nat → Nat → Nat} {od lw gp nx wt pt sta mem : Nat → Nat} {wn pn G T k v : Nat} (tj : TJ M op dg ed od lw gp nx wt pt wn pn G T) (h : mbs gp sta mem G) (hk : k < wn) (ek : wt k = v) : mbs (gcl od gp v G) (upn sta (G + 1) (sta G + (wn - k))) (mcl sta mem wt G wn) (G + 1) := by
  obtain ⟨hA, hB, hC, hD, hL, hF, hN, hK⟩ := tj
  obtain ⟨h1, h2, h3, h4, h5⟩ := id h
  have st : ∀ g, g ≤ G → upn sta (G + 1) (sta G + (wn - k)) g = sta g := fun g hg => upn_n (by omega)
  have seg : ∀ t, k ≤ t → t < wn → od (wt t) ≠ 0 ∧ gp (wt t) = 0 ∧ od v ≤ od (wt t) := by
    intro t t1 t2
    have a := hB.1 t t2
    refine ⟨a.1, a.2, ?_⟩
    rcases Nat.eq_or_lt_of_le t1 with q | q
    · rw [← q, ek]; exact Nat.le_refl _
    · have := hB.2.1 k t q t2; rw [ek] at this; omega
  have wj : ∀ i j, i < wn → j < wn → wt i = wt j → i = j := fun i j hi hj e => by
    rcases Nat.lt_trichotomy i j with q | q | q
    · have := hB.2.1 i j q hj; rw [e] at this; omega
    · exact q
    · have := hB.2.1 j i q hi; rw [e] at this; omega
  refine ⟨by rw [st 0 (by omega)]; exact h1, fun g hg => ?_, fun g hg i hi hi' => ?_, fun y hy => ?_, fun i j hi hj e => ?_⟩
  · by_cases q : g = G
    · rw [q, st G (Nat.le_refl _), upn_s]; omega
    · rw [st g (by omega), st (g + 1) (by omega)]; exact h2 g (by omega)
  · by_cases q : g = G
    · rw [q, st G (Nat.le_refl _)] at hi
      rw [q, upn_s] at hi'
      unfold mcl
      rw [if_neg (by omega)]
      unfold gcl
      rw [if_pos (seg _ (by omega) (by omega)), q]
    · rw [st g (by omega)] at hi
      rw [st (g + 1) (by omega)] at hi'
      have iG : i < sta G := by
        have : ∀ d, g + 1 + d ≤ G → sta (g + 1) ≤ sta (g + 1 + d) := by
          intro d
          induction d with
          | zero => intro _; exact Nat.le_refl _
          | succ d ih => intro hd; exact Nat.le_trans (ih (by omega)) (h2 (g + 1 + d) (by omega))
        have := this (G - (g + 1)) (by omega)
        rw [show g + 1 + (G - (g + 1)) = G by omega] at this
        omega
      unfold mcl
      rw [if_pos iG]
      have a := h3 g (by omega) i hi hi'
      unfold gcl
      rw [if_neg (fun z => by omega)]
      exact a
  · by_cases s : od y ≠ 0 ∧ gp y = 0 ∧ od v ≤ od y
    · have eg : gcl od gp v G y = G + 1 := if_pos s
      obtain ⟨t, ht, et⟩ := hB.2.2 y s.1 s.2.1
      have kt : k ≤ t := by
        rcases Nat.lt_or_ge t k with q | q
        · have := hB.2.1 t k q hk; rw [et, ek] at this; omega
        · exact q
      rw [eg, Nat.add_sub_cancel, st G (Nat.le_refl _), upn_s]
      refine ⟨sta G + (wn - 1 - t), by omega, by omega, ?_⟩
      unfold mcl
      rw [if_neg (by omega), show wn - 1 - (sta G + (wn - 1 - t) - sta G) = t by omega]
      exact et
    · have eg : gcl od gp v G y = gp y := if_neg s
      rw [eg] at hy ⊢
      have gG := (hK y hy).2.1
      obtain ⟨i, i1, i2, i3⟩ := h4 y hy
      rw [st _ (by omega), st _ gG]
      refine ⟨i, i1, i2, ?_⟩
      have iG : i < sta G := by
        have : ∀ d, gp y + d ≤ G → sta (gp y) ≤ sta (gp y + d) := by
          intro d
          induction d with
          | zero => intro _; exact Nat.le_refl _
          | succ d ih => intro hd; exact Nat.le_trans (ih (by omega)) (h2 (gp y + d) (by omega))
        have := this (G - gp y) (by omega)
        rw [show gp y + (G - gp y) = G by omega] at this
        omega
      unfold mcl
      rw [if_pos iG]
      exact i3
  · rw [upn_s] at hi hj
    unfold mcl at e
    by_cases a : i < sta G <;> by_cases b : j < sta G
    · rw [if_pos a, if_pos b] at e; exact h5 i j a b e
    · rw [if_pos a, if_neg b] at e
      have := mbs_nz h a
      rw [e] at this
      exact absurd (seg _ (by omega) (by omega)).2.1 this
    · rw [if_neg a, if_pos b] at e
      have := mbs_nz h b
      rw [← e] at this
      exact absurd (seg _ (by omega) (by omega)).2.1 this
    · rw [if_neg a, if_neg b] at e
      have := wj _ _ (by omega) (by omega) e
      omega
theorem minX {a b : Nat} {x y : Int32} (hx : x = nI a - 1) (hy : y = nI b - 1) (ha : a < 2 ^ 30) (hb : b < 2 ^ 30) : f_Math_min x y = nI (min a b) - 1 := by
  unfold f_Math_min
  rw [hx, hy]
  have k := sd_le (a := a) (b := b) ha hb
  by_cases q : a ≤ b
  · rw [if_neg (Int32.not_lt.mpr (k.mpr q)), Nat.min_eq_left q]
  · rw [if_pos (Int32.not_le.mp (fun z => q (k.mp z))), Nat.min_eq_right (by omega)]
def dgx (P W : Nat → Nat) (v : Nat) : Nat := cn (psb P (W (v / 4))) 64
def TXm (P W : Nat → Nat) (Mn : Nat) (od lw gp nx wt pt sta mem : Nat → Nat) (wn pn G T : Nat) (m : zM) : Prop := (∀ v, v < Mn → m.1 133 v = nI (od v) - 1 ∧ m.1 130 v = nI (gp v) - 1 ∧ (od v ≠ 0 → m.1 134 v = nI (lw v) - 1 ∧ m.1 135 v = nI (frm P W (v / 4) + nx v))) ∧ (∀ i, i < wn → m.1 136 i = nI (wt i)) ∧ (∀ j, j < pn → m.1 137 j = nI (pt j)) ∧ (m.1 129 15 = nI pn ∧ m.1 129 14 = nI wn ∧ m.1 129 13 = nI T ∧ m.1 129 4 = nI G) ∧ (∀ g, g ≤ G → m.1 131 g = nI (sta g)) ∧ ∀ i, i < sta G → m.1 132 i = nI (mem i)
def XFr (m0 m : zM) : Prop := fl2 [130, 131, 132, 133, 134, 135, 136, 137] [(129, 4), (129, 13), (129, 14), (129, 15)] m0 m
theorem enterX {P W : Nat → Nat} {N u wn pn G T : Nat} {od lw gp nx wt pt sta mem : Nat → Nat} {m : zM} (hN : N ≤ 600) (h36 : ∀ i, i ≤ N → m.1 36 i = nI (frm P W i)) (h : TXm P W (4 * N) od lw gp nx wt pt sta mem wn pn G T m) (hu : u < 4 * N) (hw : wn < 2400) (hp : pn < 2400) : ok (f_Joined_enter (nI u) m) (fun p => XFr m p ∧ TXm P W (4 * N) (upn od u (T + 1)) (upn lw u (T + 1)) gp (upn nx u 0) (upn wt wn u) (upn pt pn u) sta mem (wn + 1) (pn + 1) G (T + 1) p) := by
  obtain ⟨h1, h2, h3, ⟨h4, h5, h6, h7⟩, h8, h9⟩ := h
  have u2 : u < 2400 := by omega
  have e4 : nI u / 4 = nI (u / 4) := pk_div (d := 4) (by omega) (by decide) (by decide)
  unfold f_Joined_enter
  rw [e4]
  refine ok_ix rfl u2 (by decide) (ok_lt (ok_ix rfl u2 (by decide) (ok_lt (ok_lt (ok_ix rfl (show u / 4 < 601 by omega) (by decide) (ok_ix rfl u2 (by decide) (ok_lt ?_)))))))
  refine ok_ix (i := wn) (by rw [rd_I0 (by omega), rd_I0 (by omega), rd_I0 (by omega), rd_I0 (by omega)]; exact h5) hw (by decide) (ok_lt (ok_lt ?_))
  refine ok_ix (i := pn) (by rw [rd_I0 (by omega), rd_I0 (by omega), rd_I0 (by omega), rd_I0 (by omega), rd_I0 (by omega), rd_I0 (by omega)]; exact h4) hp (by decide) (ok_lt (ok_lt (ok_mk ⟨?_, ?_⟩)))
  · exact fl2_tr (fl2_I (inS_c (by simp))) (fl2_tr (fl2_I (inS_c (by simp))) (fl2_tr (fl2_I (inS_f (by simp))) (fl2_tr (fl2_I (inS_c (by simp))) (fl2_tr (fl2_I (inS_c (by simp))) (fl2_tr (fl2_I (inS_f (by simp))) (fl2_tr (fl2_I (inS_c (by simp))) (fl2_I (inS_f (by simp)))))))))
  · have m1 : nI T = nI (T + 1) - 1 := (nI_pred T).symm
    refine ⟨fun v hv => ?_, fun i hi => ?_, fun j hj => ?_, ⟨?_, ?_, ?_, ?_⟩, fun g hg => ?_, fun i hi => ?_⟩
    · obtain ⟨a1, a2, a3⟩ := h1 v hv
      by_cases e : v = u
      · subst e
        refine ⟨?_, ?_, fun _ => ⟨?_, ?_⟩⟩
        · simp only [rd_I, upn_s]
          simp [h6, m1]
        · simp [rd_I]; exact a2
        · simp only [rd_I, upn_s]
          simp [h6, m1]
        · simp only [rd_I, upn_s]
          simp [h36 (v / 4) (by omega)]
      · refine ⟨?_, ?_, fun z => ?_⟩
        · simp [rd_I, upn, e]; exact a1
        · simp [rd_I]; exact a2
        · rw [upn_n e] at z
          simp [rd_I, upn, e]; exact a3 z
    · by_cases e : i = wn
      · subst e
        simp [rd_I, upn]
      · simp [rd_I, upn, e]; exact h2 i (by omega)
    · by_cases e : j = pn
      · subst e
        simp [rd_I, upn]
      · simp [rd_I, upn, e]; exact h3 j (by omega)
    · simp [rd_I, h4, nI_1]
    · simp [rd_I, h5, nI_1]
    · simp [rd_I, h6, nI_1]
    · simp [rd_I]; exact h7
    · simp [rd_I]; exact h8 g hg
    · simp [rd_I]; exact h9 i hi
theorem closeX {P W : Nat → Nat} {N wn pn G T k : Nat} {od lw gp nx wt pt sta mem : Nat → Nat} {m : zM} (hN : N ≤ 600) (h : TXm P W (4 * N) od lw gp nx wt pt sta mem wn pn G T m) (hw : ∀ i, i < wn → wt i < 4 * N) (hi : ∀ i j, i < wn → j < wn → wt i = wt j → i = j) (hk : k < wn) (hs : sta G + wn ≤ 2400) (hG : G < 2400) : ok (f_Joined_close (nI (wt k)) m) (fun p => fl2 [130, 131, 132] [(129, 4), (129, 14)] m p ∧ (∀ t, k ≤ t → t < wn → p.1 130 (wt t) = nI G) ∧ (∀ y, (∀ t, k ≤ t → t < wn → wt t ≠ y) → p.1 130 y = m.1 130 y) ∧ (∀ g, g ≤ G + 1 → p.1 131 g = nI (upn sta (G + 1) (sta G + (wn - k)) g)) ∧ (∀ i, i < sta G + (wn - k) → p.1 132 i = nI (mcl sta mem wt G wn i)) ∧ p.1 129 14 = nI k ∧ p.1 129 4 = nI (G + 1)) := by
  obtain ⟨h1, h2, h3, ⟨h4, h5, h6, h7⟩, h8, h9⟩ := h
  unfold f_Joined_close
  refine ok_ix h7 (show G < 2401 by omega) (by decide) ?_
  rw [h8 G (Nat.le_refl _)]
  unfold f_Joined_close_L12
  refine ok_lop (ι := Nat) (fun i (s : Int32 × Int32 × zM) => k ≤ i ∧ i ≤ wn ∧ s.1 = nI (sta G + (wn - i)) ∧ ((i = wn ∧ s.2.1 = -1) ∨ (i < wn ∧ s.2.1 = nI (wt i))) ∧ fl2 [130, 132] [(129, 14)] m s.2.2 ∧ (∀ t, i ≤ t → t < wn → s.2.2.1 130 (wt t) = nI G) ∧ (∀ y, (∀ t, i ≤ t → t < wn → wt t ≠ y) → s.2.2.1 130 y = m.1 130 y) ∧ (∀ j, j < sta G + (wn - i) → s.2.2.1 132 j = nI (mcl sta mem wt G wn j)) ∧ s.2.2.1 129 14 = nI i) (fun i => i) ?_ wn _ ⟨by omega, Nat.le_refl _, by rw [Nat.sub_self, Nat.add_zero], Or.inl ⟨rfl, rfl⟩, fl2_rf, fun t a b => by omega, fun y _ => rfl, fun j hj => ?_, h5⟩ (by omega)
  rotate_left
  · show m.1 132 j = _
    unfold mcl
    rw [if_pos (by omega)]; exact h9 j (by omega)
  rintro i ⟨v2, v3, m1⟩ ⟨a1, a2, a0, a3, f1, g1, g2, g4, g3⟩
  have a0 : v2 = nI (sta G + (wn - i)) := a0
  subst a0
  have f1 : fl2 [130, 132] [(129, 14)] m m1 := f1
  have g1 : ∀ t, i ≤ t → t < wn → m1.1 130 (wt t) = nI G := g1
  have g2 : ∀ y, (∀ t, i ≤ t → t < wn → wt t ≠ y) → m1.1 130 y = m.1 130 y := g2
  have g4 : ∀ j, j < sta G + (wn - i) → m1.1 132 j = nI (mcl sta mem wt G wn j) := g4
  have g3 : m1.1 129 14 = nI i := g3
  have wk := hw k hk
  have e4 : m1.1 129 4 = nI G := by rw [fl2_i f1 (by decide)]; exact h7
  have fin : i = k → ok (f_Joined_close_J67 (nI (sta G + (wn - i))) m1) (fun p => fl2 [130, 131, 132] [(129, 4), (129, 14)] m p ∧ (∀ t, k ≤ t → t < wn → p.1 130 (wt t) = nI G) ∧ (∀ y, (∀ t, k ≤ t → t < wn → wt t ≠ y) → p.1 130 y = m.1 130 y) ∧ (∀ g, g ≤ G + 1 → p.1 131 g = nI (upn sta (G + 1) (sta G + (wn - k)) g)) ∧ (∀ i, i < sta G + (wn - k) → p.1 132 i = nI (mcl sta mem wt G wn i)) ∧ p.1 129 14 = nI k ∧ p.1 129 4 = nI (G + 1)) := by
    intro e
    subst e
    unfold f_Joined_close_J67
    have e4' : (sI m1 129 4 (m1.1 129 4 + 1)).1 129 4 = nI (G + 1) := by rw [rd_I1, e4, nI_1]
    refine ok_lt (ok_ix e4' (show G + 1 < 2401 by omega) (by decide) (ok_lt (ok_mk ⟨fl2_tr (fl2_su f1 (by decide)) (fl2_tr (fl2_I (inS_f (by simp))) (fl2_I (inS_c (by simp)))), fun t t1 t2 => ?_, fun y hy => ?_, fun g hg => ?_, fun j hj => ?_, ?_, ?_⟩)))
    · rw [rd_I0 (by omega), rd_I0 (by omega)]; exact g1 t t1 t2
    · rw [rd_I0 (by omega), rd_I0 (by omega)]; exact g2 y hy
    · by_cases z : g = G + 1
      · rw [z, rd_I1, upn_s]
      · rw [rd_I0 (by omega), rd_I0 (by omega), upn_n z, fl2_i f1 (by simp [inS])]; exact h8 g (by omega)
    · rw [rd_I0 (by omega), rd_I0 (by omega)]; exact g4 j hj
    · rw [rd_I0 (by omega), rd_I0 (by omega)]; exact g3
    · rw [rd_I0 (by omega)]; exact e4'
  unfold f_Joined_close_B12
  refine ok_le i 0 (fun q => ok_zl (ok_mo (fin (by omega)) (fun _ z => z))) (fun q => ?_) (hx := g3)
  by_cases e : i = k
  · have e2 : v3 = nI (wt k) := by
      rcases a3 with ⟨b1, b2⟩ | ⟨b1, b2⟩
      · omega
      · rw [← e]; exact b2
    exact ok_ip e2 (ok_zl (ok_mo (fin e) (fun _ z => z)))
  · have wi := hw (i - 1) (by omega)
    refine ok_in (fun z => ?_) ?_
    · have z : v3 = nI (wt k) := z
      rcases a3 with ⟨_, b2⟩ | ⟨b1, b2⟩
      · have b2 : v3 = -1 := b2
        rw [b2] at z; exact nI_ne_m1 (by omega) z.symm
      · have b2 : v3 = nI (wt i) := b2
        rw [b2] at z
        have := hw i b1
        exact e (hi i k b1 hk ((nI_eq (by omega) (by omega)).mp z))
    · show ok (lt (sI m1 129 14 (m1.1 129 14 - 1)) _) _
      have e136 : (sI m1 129 14 (m1.1 129 14 - 1)).1 136 (i - 1) = nI (wt (i - 1)) := by rw [rd_I0 (by omega), fl2_i f1 (by simp [inS])]; exact h2 (i - 1) (by omega)
      have e4' : (sI m1 129 14 (m1.1 129 14 - 1)).1 129 4 = nI G := by rw [rd_I0 (by omega)]; exact e4
      refine ok_lt (ok_ix (i := i - 1) (by rw [rd_I1, g3]; exact nI_pr q) (show i - 1 < 2400 by omega) (by decide) ?_)
      rw [e136, e4']
      refine ok_ix rfl (show wt (i - 1) < 2400 by omega) (by decide) (ok_lt (ok_ix rfl (show sta G + (wn - i) < 2400 by omega) (by decide) (ok_lt (ok_mk ⟨i - 1, by omega, by omega, by omega, ?_, Or.inr ⟨by omega, rfl⟩, ?_, fun t t1 t2 => ?_, fun y hy => ?_, fun j hj => ?_, ?_⟩))))
      · show nI _ + 1 = _
        rw [nI_1]; congr 1; omega
      · exact fl2_tr f1 (fl2_tr (fl2_I (inS_f (by simp))) (fl2_tr (fl2_I (inS_c (by simp))) (fl2_I (inS_c (by simp)))))
      · show (sI (sI (sI m1 129 14 (m1.1 129 14 - 1)) 130 (wt (i - 1)) (nI G)) 132 _ _).1 130 (wt t) = _
        rw [rd_I0 (by omega)]
        by_cases z : t = i - 1
        · rw [z, rd_I1]
        · rw [rd_I0 (fun y => z (hi t (i - 1) t2 (by omega) y.2)), rd_I0 (by omega)]; exact g1 t (by omega) t2
      · show (sI (sI (sI m1 129 14 (m1.1 129 14 - 1)) 130 (wt (i - 1)) (nI G)) 132 _ _).1 130 y = _
        rw [rd_I0 (by omega), rd_I0 (fun z => hy (i - 1) (by omega) (by omega) z.2.symm), rd_I0 (by omega)]
        exact g2 y (fun t t1 t2 => hy t (by omega) t2)
      · show (sI (sI (sI m1 129 14 (m1.1 129 14 - 1)) 130 (wt (i - 1)) (nI G)) 132 (sta G + (wn - i)) (nI (wt (i - 1)))).1 132 j = _
        by_cases z : j = sta G + (wn - i)
        · rw [z, rd_I1]
          unfold mcl
          rw [if_neg (by omega)]
          congr 2
          omega
        · rw [rd_I0 (by omega), rd_I0 (by omega), rd_I0 (by omega)]; exact g4 j (by omega)
      · show (sI (sI (sI m1 129 14 (m1.1 129 14 - 1)) 130 (wt (i - 1)) (nI G)) 132 _ _).1 129 14 = _
        rw [rd_I0 (by omega), rd_I0 (by omega), rd_I1, g3]; exact nI_pr q
