def Alk (x y : Option (Int32 × zM)) : Prop := ok x (fun p => ok y (fun q => p.1 = q.1 ∧ IvW p.2 q.2))
theorem Alk_b {x : Option Int32} {y : Option (Int32 × zM)} {mx : zM} (h : ok x (fun r => ok y (fun q => r = q.1 ∧ IvW mx q.2))) : Alk (x.bind fun r => some (r, mx)) y := ok_bi h (fun r hr => ok_mk hr)
theorem Alk_k {mx mm : zM} {r : Int32} (h : IvW mx mm) : ok (some (r, mm)) (fun q => r = q.1 ∧ IvW mx q.2) := ok_mk ⟨rfl, h⟩
theorem qryS {P : Nat → Nat} {N : Nat} {W D pr sp : Nat → Nat} {b : Nat} {mx mm p q : zM} {S : List Nat} {F : List (Nat × Nat)} (hc : CoR mx mm) (h : Told P N W D pr sp b mx mm) (hf : fl2 MS MF mm p) (hm : MaK P N W D p) (hg : fl2 S F p q) (su : sbs S F MS MF = true) (hk : kps [27, 28, 29] [(0, 41)] S F = true) (hk2 : kps [30] [] S F = true) (hk3 : kps [32, 35, 36] [] S F = true) (hk4 : kps [] [(0, 40), (0, 46)] S F = true) : IvW mx q :=
  qryA hc h (fl2_tr hf (fl2_su hg su)) (MaK_fl hm hg hk hk2 hk3 hk4)
theorem qryL {P : Nat → Nat} {N : Nat} {W D pr sp : Nat → Nat} {b : Nat} {mx mm p q : zM} (hc : CoR mx mm) (h : Told P N W D pr sp b mx mm) (hf : fl2 MS MF mm p) (hm : MaK P N W D p) (hg : QkFr p q) (hl : LKm P 16 N W q) : IvW mx q :=
  qryA hc h (fl2_tr hf (fl2_su hg (by decide))) ⟨by rw [fl2_i hg (by decide)]; exact hm.1, LMx_fl hm.2.1 hg (by decide) (by decide), fun _ => hl⟩
theorem c_fault {a1 : Int32} {mx mm : zM} (h : IvW mx mm) : Alk (some (f_PA_fault a1 mx, mx)) (some (f_MO_fault a1 mm, mm)) := by
  refine ok_mk (ok_mk ⟨?_, h⟩)
  show f_PA_fault a1 mx = f_MO_fault a1 mm
  unfold f_PA_fault f_MO_fault
  rw [h.1.2.2.1.1, h.1.2.2.1.2.1]
theorem isIn_c {n : Nat} {x : Int32} {hi : Int64} (hn : n < 2 ^ 30) (e : hi = (nI n - 1).toInt64) : f_MO_isIn x.toInt64 0 hi = true ↔ ∃ k, k < n ∧ x = nI k := by rw [e]; exact isIn_n hn
theorem isIn_d {n : Nat} {x : Int32} {hi : Int64} (hn : n < 2 ^ 30) (e : hi = (nI n - 1).toInt64) (h : ∀ k, k < n → x ≠ nI k) : f_MO_isIn x.toInt64 0 hi = false := by rw [e]; exact isIn_f hn h
theorem c_status {a1 : Int32} {mx mm : zM} (h : IvW mx mm) : Alk ((f_PA_status a1 mx).bind fun r => some (r, mx)) ((f_MO_status a1 mm).bind fun r => some (r, mm)) := by
  refine Alk_b ?_
  unfold f_PA_status f_MO_status
  rcases num_or a1 6 with ⟨k, hk, e⟩ | e
  · rw [(isIn_c (n := 6) (by decide) (by decide)).mpr ⟨k, hk, e⟩]
    subst e
    refine ok_in (nI_pos (by omega)) (ok_in (nI_ge (b := 6) hk (by decide)) (ok_ix rfl hk (by decide) (ok_mk ?_)))
    refine ok_bi (G := fun r => r = mx.1 64 k) (ok_ip rfl (ok_ix rfl hk (by decide) (ok_mk (h.1.2.1 k hk).symm))) (fun r hr => ok_mk ⟨hr.symm, h⟩)
  · rw [isIn_d (n := 6) (by decide) (by decide) e]
    have y : ok (if (false : Bool) = true then (ix 6 a1).bind fun i1 => some (mm.1 2 i1) else some (-1)) (fun r => r = (-1 : Int32)) := ok_in (by decide) (ok_mk rfl)
    rcases rng_f (n := 6) (by omega) e with s | s
    · exact ok_ip s (ok_mk (ok_bi y (fun r hr => ok_mk ⟨hr.symm, h⟩)))
    · exact ok_it (fun _ => ok_mk (ok_bi y (fun r hr => ok_mk ⟨hr.symm, h⟩))) (fun _ => ok_ip s (ok_mk (ok_bi y (fun r hr => ok_mk ⟨hr.symm, h⟩))))
/-- what the class asks of a rule, of an agent -/
theorem isRuT {P : Nat → Nat} {N : Nat} {W D pr sp : Nat → Nat} {b : Nat} {x : Int32} {mx : zM} (h : TdX P N W D pr sp b mx) : ok (f_PA_isRule x mx) (fun r => r = true ↔ ∃ k, k < P 8 ∧ x = nI k) := by
  obtain ⟨h1, h2, h3, h4, _⟩ := h
  have p8 := h1.1.1.2.2.2.2.2.2.2.2.2.2.1
  unfold f_PA_isRule
  refine ok_in (by rw [h3]; decide) ?_
  rcases num_or x (P 8) with ⟨k, hk, e⟩ | e
  · subst e
    refine ok_in (nI_pos (by omega)) (ok_eb (tb_ok h2.2.1 h2.1) (ok_in ?_ (ok_mk ⟨fun _ => ⟨k, hk, rfl⟩, fun _ => rfl⟩)))
    rw [h4.1.2.2.1]; exact nI_ge hk (by omega)
  · have no : (false = true) ↔ ∃ k, k < P 8 ∧ x = nI k := ⟨fun z => (by cases z), fun ⟨k, hk, z⟩ => absurd z (e k hk)⟩
    rcases rng_f (n := P 8) (by omega) e with s | s
    · exact ok_ip s (ok_mk no)
    · refine ok_it (fun _ => ok_mk no) (fun _ => ok_eb (tb_ok h2.2.1 h2.1) (ok_ip ?_ (ok_mk no)))
      rw [h4.1.2.2.1]; exact s
theorem isAgT {P : Nat → Nat} {N : Nat} {W D pr sp : Nat → Nat} {b : Nat} {x : Int32} {mx : zM} (h : TdX P N W D pr sp b mx) : ok (f_PA_isAgent x mx) (fun r => r = true ↔ ∃ k, k < P 3 ∧ x = nI k) := by
  obtain ⟨h1, h2, h3, h4, _⟩ := h
  have p3 := h1.1.1.2.1
  unfold f_PA_isAgent
  refine ok_in (by rw [h3]; decide) ?_
  rcases num_or x (P 3) with ⟨k, hk, e⟩ | e
  · subst e
    refine ok_in (nI_pos (by omega)) (ok_eb (tb_ok h2.2.1 h2.1) (ok_in ?_ (ok_mk ⟨fun _ => ⟨k, hk, rfl⟩, fun _ => rfl⟩)))
    rw [h4.1.1]; exact nI_ge hk (by omega)
  · have no : (false = true) ↔ ∃ k, k < P 3 ∧ x = nI k := ⟨fun z => (by cases z), fun ⟨k, hk, z⟩ => absurd z (e k hk)⟩
    rcases rng_f (n := P 3) (by omega) e with s | s
    · exact ok_ip s (ok_mk no)
    · refine ok_it (fun _ => ok_mk no) (fun _ => ok_eb (tb_ok h2.2.1 h2.1) (ok_ip ?_ (ok_mk no)))
      rw [h4.1.1]; exact s
theorem rulesM {P : Nat → Nat} {m : zM} (h : tM 23 P m) : f_MO_rules m = some (nI (P 8)) := by
  unfold f_MO_rules
  rw [show ix 184 (8 : Int32) = some 8 from ix_nI (n := 184) (i := 8) (by decide) (by decide), Option.bind_some, tM_n h (by decide) (by decide)]
theorem isMvM {P : Nat → Nat} {x y : Int32} {m : zM} (hP : tV P) (h : tM 23 P m) : ok (f_MO_isMove x y m) (fun r => r = true ↔ (∃ k, k < P 8 ∧ x = nI k) ∧ ∃ k, k < P 3 ∧ y = nI k) := by
  have p3 := hP.1.2.1
  have p8 := hP.1.2.2.2.2.2.2.2.2.2.2.1
  unfold f_MO_isMove
  refine ok_eb (rulesM h) (ok_it (fun q => ok_eb (agM (tM_n h (by decide) (by decide))) (ok_it (fun q2 => ok_mk ?_) (fun q2 => ok_mk ?_))) (fun q => ok_mk ?_))
  · exact ⟨fun _ => ⟨(isIn_n (by omega)).mp q, (isIn_n (by omega)).mp q2⟩, fun _ => rfl⟩
  · exact ⟨fun z => (by cases z), fun z => absurd ((isIn_n (by omega)).mpr z.2) q2⟩
  · exact ⟨fun z => (by cases z), fun z => absurd ((isIn_n (by omega)).mpr z.1) q⟩
def Qy (P : Nat → Nat) (N : Nat) (W D pr sp : Nat → Nat) (b : Nat) (mx mm p : zM) : Prop := CoR mx mm ∧ Told P N W D pr sp b mx mm ∧ fl2 MS MF mm p ∧ tM 23 P p ∧ MaK P N W D p
theorem Qy_i {P : Nat → Nat} {N : Nat} {W D pr sp : Nat → Nat} {b : Nat} {mx mm p : zM} (h : Qy P N W D pr sp b mx mm p) : IvW mx p := qryA h.1 h.2.1 h.2.2.1 h.2.2.2.2
theorem Qy_s {P : Nat → Nat} {N : Nat} {W D pr sp : Nat → Nat} {b : Nat} {mx mm p q : zM} {S : List Nat} {F : List (Nat × Nat)} (h : Qy P N W D pr sp b mx mm p) (hg : fl2 S F p q) (su : sbs S F MS MF = true) (hk : kps [27, 28, 29] [(0, 41)] S F = true) (hk2 : kps [30] [] S F = true) (hk3 : kps [32, 35, 36] [] S F = true) (hk4 : kps [] [(0, 40), (0, 46)] S F = true) : IvW mx q := qryS h.1 h.2.1 h.2.2.1 h.2.2.2.2 hg su hk hk2 hk3 hk4
theorem Qy_l {P : Nat → Nat} {N : Nat} {W D pr sp : Nat → Nat} {b : Nat} {mx mm p q : zM} (h : Qy P N W D pr sp b mx mm p) (hg : QkFr p q) (hl : LKm P 16 N W q) : IvW mx q := qryL h.1 h.2.1 h.2.2.1 h.2.2.2.2 hg hl
/-- a question of a world; a question of a table -/
theorem wqry {A : Option Int32} {B : Bool × zM → Option (Int32 × zM)} {a1 : Int32} {mx mm : zM} (h : IvW mx mm) (k : ∀ (P : Nat → Nat) (N : Nat) (W D pr sp : Nat → Nat) (b i : Nat) (p : Bool × zM), Qy P N W D pr sp b mx mm p.2 → i < N → a1 = nI i → ok A (fun r => ok (B p) (fun q => r = q.1 ∧ IvW mx q.2))) : ok (if f_PA_isWorld a1 mx = true then A else some (-1)) (fun r => ok ((f_MO_isWorld a1 mm).bind fun p1 => if p1.1 = true then B p1 else some (-1, p1.2)) (fun q => r = q.1 ∧ IvW mx q.2)) := by
  obtain ⟨hc, hn | ⟨P, N, W, D, pr, sp, b, ht⟩⟩ := id h
  · rw [ntX hn]
    exact ok_in (by decide) (ok_mk (ok_eb (ntW hn) (ok_in Bool.false_ne_true (ok_mk ⟨rfl, h⟩))))
  · obtain ⟨p, ep, z1, z2, z3, z4⟩ := wldT (x := a1) ht
    rw [ep]
    refine ok_it (fun q => ?_) (fun q => ok_mk (ok_in (fun y => q ((wldX ht).mpr (z1.mp y))) (ok_mk ⟨rfl, qryA hc ht z2 z4⟩)))
    obtain ⟨i, hi, e⟩ := (wldX ht).mp q
    refine ok_mo (k P N W D pr sp b i p ⟨hc, ht, z2, z3, z4⟩ hi e) (fun r hr => ok_ip (z1.mpr ⟨i, hi, e⟩) hr)
theorem aqry {A : Option Int32} {B : Bool × zM → Option (Int32 × zM)} {v : Int32} {mx mm : zM} (h : IvW mx mm) (k : ∀ (P : Nat → Nat) (N : Nat) (W D pr sp : Nat → Nat) (b : Nat) (p : Bool × zM), Qy P N W D pr sp b mx mm p.2 → ok A (fun r => ok (B p) (fun q => r = q.1 ∧ IvW mx q.2))) : ok (if mx.1 0 13 = 0 then some v else A) (fun r => ok ((f_MO_isAsked mm).bind fun p1 => if p1.1 = true then B p1 else some (v, p1.2)) (fun q => r = q.1 ∧ IvW mx q.2)) := by
  obtain ⟨hc, hn | ⟨P, N, W, D, pr, sp, b, ht⟩⟩ := id h
  · exact ok_ip hn.1 (ok_mk (ok_eb (ntA hn) (ok_in Bool.false_ne_true (ok_mk ⟨rfl, h⟩))))
  · obtain ⟨p, ep, z1, z2, z3, z4⟩ := askT ht
    rw [ep]
    refine ok_in (by rw [ht.1.2.2.1]; decide) (ok_mo (k P N W D pr sp b p ⟨hc, ht, z2, z3, z4⟩) (fun r hr => ok_ip z1 hr))
theorem c_leads {a1 a2 a3 : Int32} {mx mm : zM} (h : IvW mx mm) : Alk ((f_PA_leads a1 a2 a3 mx).bind fun r => some (r, mx)) (f_MO_leads a1 a2 a3 mm) := by
  refine Alk_b ?_
  unfold f_PA_leads f_MO_leads
  refine wqry h (fun P N W D pr sp b k p hq hk e => ?_)
  obtain ⟨hc, ht, z2, z3, z4⟩ := id hq
  obtain ⟨⟨h1, h2, h3, h4, h5, h6, h7⟩, r0, g1, g2, g3, g4, g5⟩ := ht.1
  refine ok_bi (isRuT ht.1) (fun r hr => ?_)
  have no : (¬ ((∃ k, k < P 8 ∧ a2 = nI k) ∧ ∃ k, k < P 3 ∧ a3 = nI k)) → ok ((f_MO_isMove a2 a3 p.2).bind fun r2 => if r2 = true then (ix 38912 (((64 * a1) + (4 * a2)) + a3)).bind fun i3 => some (((p.2.1 30 i3), p.2)) else some (((-1), p.2))) (fun q => (-1 : Int32) = q.1 ∧ IvW mx q.2) := fun z => ok_bi (isMvM h1 z3) (fun s hs => ok_in (fun y => z (hs.mp y)) (ok_mk ⟨rfl, Qy_i hq⟩))
  refine ok_it (fun q1 => ok_bi (isAgT ht.1) (fun r' hr' => ok_it (fun q2 => ?_) (fun q2 => ok_mk (no (fun z => q2 (hr'.mpr z.2)))))) (fun q1 => ok_mk (no (fun z => q1 (hr.mpr z.1))))
  obtain ⟨i, hi, e2⟩ := hr.mp q1
  obtain ⟨j, hj, e3⟩ := hr'.mp q2
  have p8 := h1.1.2.2.2.2.2.2.2.2.2.2.1
  have p3 := h1.1.2.1
  subst e e2 e3
  refine ok_eb (leadingX h1 h3 h4 g3 hk hi hj) (ok_mk (ok_bi (isMvM h1 z3) (fun s hs => ok_ip (hs.mpr ⟨⟨i, hi, rfl⟩, j, hj, rfl⟩) ?_)))
  refine ok_ix (i := 64 * k + (4 * i + j)) ?_ (by omega) (by decide) (ok_mk ⟨(z4.2.1.2.2.2.2 k hk (4 * i + j) (by omega)).symm, Qy_i hq⟩)
  rw [show (64 : Int32) = nI 64 from rfl, show (4 : Int32) = nI 4 from rfl, pk_mul, pk_mul, nI_add, nI_add, Nat.add_assoc]
