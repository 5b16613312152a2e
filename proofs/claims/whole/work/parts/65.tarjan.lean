/-- one can come from u to v -/
def Rc (E : Nat → Nat → Prop) (u v : Nat) : Prop := ∃ d, Rn E u d v
theorem Rc_rf {E : Nat → Nat → Prop} {u : Nat} : Rc E u u := ⟨0, rfl⟩
theorem Rc_st {E : Nat → Nat → Prop} {u v w : Nat} (h : Rc E u v) (e : E v w) : Rc E u w := by
  obtain ⟨d, h⟩ := h
  exact ⟨d + 1, v, h, e⟩
theorem Rc_tr {E : Nat → Nat → Prop} {u v w : Nat} (h : Rc E u v) (h' : Rc E v w) : Rc E u w := by
  obtain ⟨d, h'⟩ := h'
  induction d generalizing w with
  | zero => have h' : w = v := h'; rw [h']; exact h
  | succ d ih =>
    obtain ⟨y, h1, h2⟩ := h'
    exact Rc_st (ih h1) h2
theorem Rc_ed {E : Nat → Nat → Prop} {u v : Nat} (e : E u v) : Rc E u v := Rc_st Rc_rf e
/-- what holds and goes on along all edges holds wherever one can come -/
theorem Rc_in {E : Nat → Nat → Prop} {p : Nat → Prop} {u v : Nat} (h : Rc E u v) (h0 : p u) (hs : ∀ x y, p x → E x y → p y) : p v := by
  obtain ⟨d, h⟩ := h
  induction d generalizing v with
  | zero => have h : v = u := h; rw [h]; exact h0
  | succ d ih =>
    obtain ⟨y, h1, h2⟩ := h
    exact hs y v (ih h1) h2
def TEd (op : Nat → Prop) (dg : Nat → Nat) (ed : Nat → Nat → Nat) (u v : Nat) : Prop := op u ∧ ∃ e, e < dg u ∧ ed u e = v + 1
def tjA (M : Nat) (op : Nat → Prop) (od : Nat → Nat) (T : Nat) : Prop := (∀ v, od v ≠ 0 → v < M ∧ op v ∧ od v ≤ T) ∧ ∀ u v, od u ≠ 0 → od u = od v → u = v
def tjB (od gp wt : Nat → Nat) (wn : Nat) : Prop := (∀ i, i < wn → od (wt i) ≠ 0 ∧ gp (wt i) = 0) ∧ (∀ i j, i < j → j < wn → od (wt i) < od (wt j)) ∧ ∀ v, od v ≠ 0 → gp v = 0 → ∃ i, i < wn ∧ wt i = v
def tjC (E : Nat → Nat → Prop) (od gp pt : Nat → Nat) (pn : Nat) : Prop := (∀ j, j < pn → od (pt j) ≠ 0 ∧ gp (pt j) = 0) ∧ ∀ i j, i < j → j < pn → od (pt i) < od (pt j) ∧ Rc E (pt i) (pt j)
def tjD (E : Nat → Nat → Prop) (od gp pt : Nat → Nat) (pn : Nat) : Prop := (∀ j, j < pn → ∀ y, od y ≠ 0 → gp y = 0 → od (pt j) ≤ od y → Rc E (pt j) y) ∧ ∀ y, od y ≠ 0 → gp y = 0 → ∃ j, j < pn ∧ od (pt j) ≤ od y ∧ Rc E y (pt j)
def tjL (E : Nat → Nat → Prop) (od lw gp pt : Nat → Nat) (pn : Nat) : Prop := ∀ j, j < pn → lw (pt j) ≤ od (pt j) ∧ ∃ w, od w ≠ 0 ∧ gp w = 0 ∧ lw (pt j) = od w ∧ Rc E (pt j) w
def tjF (ed : Nat → Nat → Nat) (od lw gp nx pt : Nat → Nat) (pn : Nat) : Prop := ∀ j, j < pn → ∀ y, od y ≠ 0 → gp y = 0 → od (pt j) ≤ od y → (j + 1 < pn → od y < od (pt (j + 1))) → ∀ e, e < nx y → ∀ u, ed y e = u + 1 → od u ≠ 0 → gp u = 0 → lw (pt j) ≤ od u
def tjN (dg : Nat → Nat) (ed : Nat → Nat → Nat) (od nx pt : Nat → Nat) (pn : Nat) : Prop := ∀ v, od v ≠ 0 → nx v ≤ dg v ∧ (∀ e, e < nx v → ∀ u, ed v e = u + 1 → od u ≠ 0) ∧ ((∀ j, j < pn → pt j ≠ v) → nx v = dg v)
def tjK (E : Nat → Nat → Prop) (dg : Nat → Nat) (ed : Nat → Nat → Nat) (od gp : Nat → Nat) (G : Nat) : Prop := ∀ v, gp v ≠ 0 → od v ≠ 0 ∧ gp v ≤ G ∧ (∀ e, e < dg v → ∀ u, ed v e = u + 1 → gp u ≠ 0 ∧ gp u ≤ gp v) ∧ ∀ u, gp u = gp v → Rc E v u
/-- the search for strongly joined groups, under way -/
def TJ (M : Nat) (op : Nat → Prop) (dg : Nat → Nat) (ed : Nat → Nat → Nat) (od lw gp nx wt pt : Nat → Nat) (wn pn G T : Nat) : Prop := tjA M op od T ∧ tjB od gp wt wn ∧ tjC (TEd op dg ed) od gp pt pn ∧ tjD (TEd op dg ed) od gp pt pn ∧ tjL (TEd op dg ed) od lw gp pt pn ∧ tjF ed od lw gp nx pt pn ∧ tjN dg ed od nx pt pn ∧ tjK (TEd op dg ed) dg ed od gp G
theorem TJ_0 {M : Nat} {op : Nat → Prop} {dg : Nat → Nat} {ed : Nat → Nat → Nat} {od lw gp nx wt pt : Nat → Nat} (h1 : ∀ v, od v = 0) (h2 : ∀ v, gp v = 0) : TJ M op dg ed od lw gp nx wt pt 0 0 0 0 :=
  ⟨⟨fun v h => absurd (h1 v) h, fun u v h => absurd (h1 u) h⟩, ⟨fun i hi => absurd hi (Nat.not_lt_zero _), fun i j _ hj => absurd hj (Nat.not_lt_zero _), fun v h => absurd (h1 v) h⟩, ⟨fun i hi => absurd hi (Nat.not_lt_zero _), fun i j _ hj => absurd hj (Nat.not_lt_zero _)⟩, ⟨fun i hi => absurd hi (Nat.not_lt_zero _), fun v h => absurd (h1 v) h⟩, fun i hi => absurd hi (Nat.not_lt_zero _), fun i hi => absurd hi (Nat.not_lt_zero _), fun v h => absurd (h1 v) h, fun v h => absurd (h2 v) h⟩
/-- how many steps are left at most -/
def tjm (dg od nx : Nat → Nat) (pn : Nat) : Nat → Nat
  | 0 => pn
  | k + 1 => tjm dg od nx pn k + (if od k = 0 then dg k + 1 else dg k - nx k)
theorem tjm_cg {dg od nx od' nx' : Nat → Nat} {pn k : Nat} (h : ∀ v, v < k → od' v = od v ∧ nx' v = nx v) : tjm dg od' nx' pn k = tjm dg od nx pn k := by
  induction k with
  | zero => rfl
  | succ k ih =>
    show tjm dg od' nx' pn k + (if od' k = 0 then dg k + 1 else dg k - nx' k) = tjm dg od nx pn k + (if od k = 0 then dg k + 1 else dg k - nx k)
    rw [ih (fun v hv => h v (by omega)), (h k (by omega)).1, (h k (by omega)).2]
theorem tjm_pn {dg od nx : Nat → Nat} {pn d k : Nat} : tjm dg od nx (pn + d) k = tjm dg od nx pn k + d := by
  induction k with
  | zero => rfl
  | succ k ih =>
    show tjm dg od nx (pn + d) k + _ = tjm dg od nx pn k + _ + d
    rw [ih]
    omega
/-- one change, at v -/
theorem tjm_ch {dg od nx od' nx' : Nat → Nat} {pn k v d : Nat} (hv : v < k) (h : ∀ u, u ≠ v → od' u = od u ∧ nx' u = nx u) (hd : (if od' v = 0 then dg v + 1 else dg v - nx' v) + d = (if od v = 0 then dg v + 1 else dg v - nx v)) : tjm dg od' nx' pn k + d = tjm dg od nx pn k := by
  induction k with
  | zero => omega
  | succ k ih =>
    show tjm dg od' nx' pn k + (if od' k = 0 then dg k + 1 else dg k - nx' k) + d = tjm dg od nx pn k + (if od k = 0 then dg k + 1 else dg k - nx k)
    by_cases e : k = v
    · subst e
      rw [tjm_cg (od := od) (nx := nx) (fun u hu => h u (by omega))]
      omega
    · rw [(h k e).1, (h k e).2]
      have := ih (by omega)
      omega
theorem tjm_le {dg od nx : Nat → Nat} {pn k B : Nat} (h : ∀ v, v < k → dg v ≤ B) : tjm dg od nx pn k ≤ pn + k * (B + 1) := by
  induction k with
  | zero => show pn ≤ pn + 0 * (B + 1); omega
  | succ k ih =>
    have a := ih (fun v hv => h v (by omega))
    have b := h k (by omega)
    show tjm dg od nx pn k + (if od k = 0 then dg k + 1 else dg k - nx k) ≤ pn + (k + 1) * (B + 1)
    rw [Nat.add_mul, Nat.one_mul]
    split <;> omega
/-- the last of the path -/
theorem tj_top {E : Nat → Nat → Prop} {od gp pt : Nat → Nat} {pn j : Nat} (hC : tjC E od gp pt pn) (hp : 0 < pn) (hj : j < pn) : Rc E (pt j) (pt (pn - 1)) ∧ od (pt j) ≤ od (pt (pn - 1)) ∧ (j ≠ pn - 1 → od (pt j) < od (pt (pn - 1))) := by
  by_cases e : j = pn - 1
  · rw [e]; exact ⟨Rc_rf, Nat.le_refl _, fun z => absurd rfl z⟩
  · have := hC.2 j (pn - 1) (by omega) (by omega)
    exact ⟨this.2, Nat.le_of_lt this.1, fun _ => this.1⟩
/-- a new node is entered -/
theorem TJ_ent {M : Nat} {op : Nat → Prop} {dg : Nat → Nat} {ed : Nat → Nat → Nat} {od lw gp nx nx1 wt pt : Nat → Nat} {wn pn G T u : Nat} (h : TJ M op dg ed od lw gp nx wt pt wn pn G T) (hu : od u = 0) (hM : u < M) (ho : op u) (F1 : ∀ j, j < pn → Rc (TEd op dg ed) (pt j) u) (F2 : ∀ v, od v ≠ 0 → nx1 v ≤ dg v) (F3 : ∀ v, od v ≠ 0 → ∀ e, e < nx1 v → ∀ t, ed v e = t + 1 → (od t ≠ 0 ∧ e < nx v) ∨ t = u) (F4 : ∀ v, (∀ j, j < pn → pt j ≠ v) → nx1 v = nx v) : TJ M op dg ed (upn od u (T + 1)) (upn lw u (T + 1)) gp (upn nx1 u 0) (upn wt wn u) (upn pt pn u) (wn + 1) (pn + 1) G (T + 1) := by
  obtain ⟨hA, hB, hC, hD, hL, hF, hN, hK⟩ := h
  have gu : gp u = 0 := by
    by_cases z : gp u = 0
    · exact z
    · exact absurd hu (hK u z).1
  have ne : ∀ v, od v ≠ 0 → v ≠ u := fun v hv z => hv (by rw [z]; exact hu)
  have od' : ∀ v, od v ≠ 0 → upn od u (T + 1) v = od v := fun v hv => upn_n (ne v hv)
  have sp : ∀ v, upn od u (T + 1) v ≠ 0 → v = u ∨ od v ≠ 0 := by
    intro v hv
    by_cases e : v = u
    · exact Or.inl e
    · rw [upn_n e] at hv; exact Or.inr hv
  have pt' : ∀ j, j < pn → upn pt pn u j = pt j := fun j hj => upn_n (by omega)
  have wt' : ∀ j, j < wn → upn wt wn u j = wt j := fun j hj => upn_n (by omega)
  have sj : ∀ j k, j < k + 1 → j = k ∨ j < k := fun j k hj => by omega
  refine ⟨⟨fun v hv => ?_, fun v w hv e => ?_⟩, ⟨fun i hi => ?_, fun i j hij hj => ?_, fun v hv hg => ?_⟩, ⟨fun j hj => ?_, fun i j hij hj => ?_⟩, ⟨fun j hj y hy hg hle => ?_, fun y hy hg => ?_⟩, fun j hj => ?_, fun j hj y hy hg hle hup e he t ht hot hgt => ?_, fun v hv => ⟨?_, fun e he t ht => ?_, fun hp => ?_⟩, fun v hv => ⟨?_, ?_, ?_, ?_⟩⟩
  · rcases sp v hv with z | z
    · rw [z, upn_s]; exact ⟨hM, ho, Nat.le_refl _⟩
    · rw [od' v z]
      obtain ⟨a, b, c⟩ := hA.1 v z
      exact ⟨a, b, by omega⟩
  · rcases sp v hv with z | z
    · by_cases w' : w = u
      · rw [z, w']
      · rw [z, upn_s, upn_n w'] at e
        have := (hA.1 w (by omega)).2.2
        omega
    · rw [od' v z] at e
      by_cases w' : w = u
      · rw [w', upn_s] at e
        have := (hA.1 v z).2.2
        omega
      · rw [upn_n w'] at e
        exact hA.2 v w z e
  · rcases sj i wn hi with z | z
    · rw [z, upn_s, upn_s]; exact ⟨by omega, gu⟩
    · rw [wt' i z, od' _ (hB.1 i z).1]; exact hB.1 i z
  · rcases sj j wn hj with z | z
    · rw [z, upn_s, upn_s, wt' i (by omega), od' _ (hB.1 i (by omega)).1]
      have := (hA.1 _ (hB.1 i (by omega)).1).2.2
      omega
    · rw [wt' j z, wt' i (by omega), od' _ (hB.1 i (by omega)).1, od' _ (hB.1 j z).1]
      exact hB.2.1 i j hij z
  · rcases sp v hv with z | z
    · exact ⟨wn, by omega, by rw [z, upn_s]⟩
    · obtain ⟨i, hi, e⟩ := hB.2.2 v z hg
      exact ⟨i, by omega, by rw [wt' i hi]; exact e⟩
  · rcases sj j pn hj with z | z
    · rw [z, upn_s, upn_s]; exact ⟨by omega, gu⟩
    · rw [pt' j z, od' _ (hC.1 j z).1]; exact hC.1 j z
  · rcases sj j pn hj with z | z
    · rw [z, upn_s, upn_s, pt' i (by omega), od' _ (hC.1 i (by omega)).1]
      have := (hA.1 _ (hC.1 i (by omega)).1).2.2
      exact ⟨by omega, F1 i (by omega)⟩
    · rw [pt' j z, pt' i (by omega), od' _ (hC.1 i (by omega)).1, od' _ (hC.1 j z).1]
      exact hC.2 i j hij z
  · rcases sj j pn hj with z | z
    · rw [z, upn_s] at hle ⊢
      rw [upn_s] at hle
      rcases sp y hy with w | w
      · rw [w]; exact Rc_rf
      · rw [od' y w] at hle
        have := (hA.1 y w).2.2
        omega
    · rw [pt' j z] at hle ⊢
      rw [od' _ (hC.1 j z).1] at hle
      rcases sp y hy with w | w
      · rw [w]; exact F1 j z
      · rw [od' y w] at hle
        exact hD.1 j z y w hg hle
  · rcases sp y hy with w | w
    · exact ⟨pn, by omega, by rw [w, upn_s, upn_s]; exact Nat.le_refl _, by rw [w, upn_s]; exact Rc_rf⟩
    · obtain ⟨j, hj, h1, h2⟩ := hD.2 y w hg
      exact ⟨j, by omega, by rw [pt' j hj, od' _ (hC.1 j hj).1, od' y w]; exact h1, by rw [pt' j hj]; exact h2⟩
  · rcases sj j pn hj with z | z
    · rw [z, upn_s, upn_s, upn_s]
      exact ⟨Nat.le_refl _, u, by rw [upn_s]; omega, gu, by rw [upn_s], Rc_rf⟩
    · have o := (hC.1 j z).1
      obtain ⟨h1, w, h2, h3, h4, h5⟩ := hL j z
      rw [pt' j z, od' _ o, upn_n (ne _ o)]
      exact ⟨h1, w, by rw [od' w h2]; exact h2, h3, by rw [od' w h2]; exact h4, h5⟩
  · rcases sp y hy with w | w
    · rw [w, upn_s] at he; omega
    · rw [od' y w] at hle hup
      have yT := (hA.1 y w).2.2
      rcases sj j pn hj with z | z
      · rw [z, upn_s, upn_s] at hle; omega
      · have o := (hC.1 j z).1
        rw [pt' j z] at hle ⊢
        rw [od' _ o] at hle
        rw [upn_n (ne _ o)]
        rw [upn_n (ne y w)] at he
        have jT := (hA.1 _ o).2.2
        rcases F3 y w e he t ht with ⟨a1, a2⟩ | a1
        · rw [od' t a1]
          refine hF j z y w hg hle (fun q => ?_) e a2 t ht a1 hgt
          have := hup (by omega)
          rw [pt' _ q, od' _ (hC.1 _ q).1] at this
          exact this
        · rw [a1, upn_s]
          have := (hL j z).1
          omega
  · rcases sp v hv with w | w
    · rw [w, upn_s]; exact Nat.zero_le _
    · rw [upn_n (ne v w)]; exact F2 v w
  · rcases sp v hv with w | w
    · rw [w, upn_s] at he; omega
    · rw [upn_n (ne v w)] at he
      rcases F3 v w e he t ht with ⟨a1, _⟩ | a1
      · rw [od' t a1]; exact a1
      · rw [a1, upn_s]; omega
  · rcases sp v hv with w | w
    · exact absurd (by rw [w, upn_s]) (hp pn (by omega))
    · rw [upn_n (ne v w)]
      have hp' : ∀ j, j < pn → pt j ≠ v := fun j hj => by have := hp j (by omega); rwa [pt' j hj] at this
      rw [F4 v hp']
      exact (hN v w).2.2 hp'
  · have := (hK v hv).1
    rw [od' v this]; exact this
  · exact (hK v hv).2.1
  · exact (hK v hv).2.2.1
  · exact (hK v hv).2.2.2
/-- from nowhere -/
theorem TJ_root {M : Nat} {op : Nat → Prop} {dg : Nat → Nat} {ed : Nat → Nat → Nat} {od lw gp nx wt pt : Nat → Nat} {wn G T u : Nat} (h : TJ M op dg ed od lw gp nx wt pt wn 0 G T) (hu : od u = 0) (hM : u < M) (ho : op u) : TJ M op dg ed (upn od u (T + 1)) (upn lw u (T + 1)) gp (upn nx u 0) (upn wt wn u) (upn pt 0 u) (wn + 1) 1 G (T + 1) :=
  TJ_ent h hu hM ho (fun j hj => absurd hj (Nat.not_lt_zero _)) (fun v hv => (h.2.2.2.2.2.2.1 v hv).1) (fun v hv e he t ht => Or.inl ⟨(h.2.2.2.2.2.2.1 v hv).2.1 e he t ht, he⟩) (fun _ _ => rfl)
/-- along an edge -/
theorem TJ_chi {M : Nat} {op : Nat → Prop} {dg : Nat → Nat} {ed : Nat → Nat → Nat} {od lw gp nx wt pt : Nat → Nat} {wn pn G T u : Nat} (h : TJ M op dg ed od lw gp nx wt pt wn pn G T) (hp : 0 < pn) (hn : nx (pt (pn - 1)) < dg (pt (pn - 1))) (he : ed (pt (pn - 1)) (nx (pt (pn - 1))) = u + 1) (hu : od u = 0) (hM : u < M) (ho : op u) : TJ M op dg ed (upn od u (T + 1)) (upn lw u (T + 1)) gp (upn (upn nx (pt (pn - 1)) (nx (pt (pn - 1)) + 1)) u 0) (upn wt wn u) (upn pt pn u) (wn + 1) (pn + 1) G (T + 1) := by
  have hC := h.2.2.1
  have hN := h.2.2.2.2.2.2.1
  have o := (hC.1 (pn - 1) (by omega)).1
  have E : TEd op dg ed (pt (pn - 1)) u := ⟨(h.1.1 _ o).2.1, _, hn, he⟩
  refine TJ_ent h hu hM ho (fun j hj => Rc_st (tj_top hC hp hj).1 E) (fun v hv => ?_) (fun v hv e he' t ht => ?_) (fun v hv => upn_n (fun z => hv (pn - 1) (by omega) z.symm))
  · by_cases z : v = pt (pn - 1)
    · rw [z, upn_s]; omega
    · rw [upn_n z]; exact (hN v hv).1
  · by_cases z : v = pt (pn - 1)
    · rw [z, upn_s] at he'
      by_cases w : e = nx (pt (pn - 1))
      · rw [z, w, he] at ht
        exact Or.inr (by omega)
      · rw [z] at ht ⊢
        exact Or.inl ⟨(hN _ o).2.1 e (by omega) t ht, by omega⟩
    · rw [upn_n z] at he'
      exact Or.inl ⟨(hN v hv).2.1 e he' t ht, he'⟩
/-- an edge that leads nowhere, or to what is closed -/
theorem TJ_nx {M : Nat} {op : Nat → Prop} {dg : Nat → Nat} {ed : Nat → Nat → Nat} {od lw gp nx wt pt : Nat → Nat} {wn pn G T : Nat} (h : TJ M op dg ed od lw gp nx wt pt wn pn G T) (hp : 0 < pn) (hn : nx (pt (pn - 1)) < dg (pt (pn - 1))) (he : ∀ u, ed (pt (pn - 1)) (nx (pt (pn - 1))) = u + 1 → gp u ≠ 0) : TJ M op dg ed od lw gp (upn nx (pt (pn - 1)) (nx (pt (pn - 1)) + 1)) wt pt wn pn G T := by
  obtain ⟨hA, hB, hC, hD, hL, hF, hN, hK⟩ := h
  have o := hC.1 (pn - 1) (by omega)
  refine ⟨hA, hB, hC, hD, hL, fun j hj y hy hg hle hup e he' t ht hot hgt => ?_, fun v hv => ⟨?_, fun e he' t ht => ?_, fun hq => ?_⟩, hK⟩
  · by_cases z : y = pt (pn - 1)
    · rw [z, upn_s] at he'
      by_cases w : e = nx (pt (pn - 1))
      · rw [z, w] at ht
        exact absurd hgt (he t ht)
      · exact hF j hj y hy hg hle hup e (by rw [z]; omega) t ht hot hgt
    · rw [upn_n z] at he'
      exact hF j hj y hy hg hle hup e he' t ht hot hgt
  · by_cases z : v = pt (pn - 1)
    · rw [z, upn_s]; omega
    · rw [upn_n z]; exact (hN v hv).1
  · by_cases z : v = pt (pn - 1)
    · rw [z, upn_s] at he'
      by_cases w : e = nx (pt (pn - 1))
      · rw [z, w] at ht
        exact (hK t (he t ht)).1
      · exact (hN v hv).2.1 e (by rw [z]; omega) t ht
    · rw [upn_n z] at he'
      exact (hN v hv).2.1 e he' t ht
  · rw [upn_n (fun z => hq (pn - 1) (by omega) z.symm)]
    exact (hN v hv).2.2 hq
/-- an edge to what waits -/
theorem TJ_low {M : Nat} {op : Nat → Prop} {dg : Nat → Nat} {ed : Nat → Nat → Nat} {od lw gp nx wt pt : Nat → Nat} {wn pn G T u : Nat} (h : TJ M op dg ed od lw gp nx wt pt wn pn G T) (hp : 0 < pn) (hn : nx (pt (pn - 1)) < dg (pt (pn - 1))) (he : ed (pt (pn - 1)) (nx (pt (pn - 1))) = u + 1) (hu : od u ≠ 0) (hg : gp u = 0) : TJ M op dg ed od (upn lw (pt (pn - 1)) (min (lw (pt (pn - 1))) (od u))) gp (upn nx (pt (pn - 1)) (nx (pt (pn - 1)) + 1)) wt pt wn pn G T := by
  obtain ⟨hA, hB, hC, hD, hL, hF, hN, hK⟩ := h
  have o := hC.1 (pn - 1) (by omega)
  have E : TEd op dg ed (pt (pn - 1)) u := ⟨(hA.1 _ o.1).2.1, _, hn, he⟩
  have ll : ∀ v, upn lw (pt (pn - 1)) (min (lw (pt (pn - 1))) (od u)) v ≤ lw v := by
    intro v
    by_cases z : v = pt (pn - 1)
    · rw [z, upn_s]; exact Nat.min_le_left _ _
    · rw [upn_n z]; exact Nat.le_refl _
  refine ⟨hA, hB, hC, hD, fun j hj => ?_, fun j hj y hy hg' hle hup e he' t ht hot hgt => ?_, fun v hv => ⟨?_, fun e he' t ht => ?_, fun hq => ?_⟩, hK⟩
  · obtain ⟨h1, w, h2, h3, h4, h5⟩ := hL j hj
    refine ⟨Nat.le_trans (ll _) h1, ?_⟩
    by_cases z : pt j = pt (pn - 1)
    · rw [z, upn_s]
      rcases Nat.le_total (lw (pt (pn - 1))) (od u) with q | q
      · rw [Nat.min_eq_left q]
        rw [z] at h4 h5
        exact ⟨w, h2, h3, h4, h5⟩
      · rw [Nat.min_eq_right q]
        exact ⟨u, hu, hg, rfl, Rc_ed E⟩
    · rw [upn_n z]
      exact ⟨w, h2, h3, h4, h5⟩
  · by_cases z : y = pt (pn - 1)
    · rw [z, upn_s] at he'
      by_cases w : e = nx (pt (pn - 1))
      · have jt : j = pn - 1 := by
          by_cases q : j = pn - 1
          · exact q
          · have a := hup (by omega)
            have b := (tj_top hC hp (show j + 1 < pn by omega)).2.1
            rw [z] at a
            omega
        rw [z, w, he] at ht
        rw [jt, upn_s, show t = u by omega]
        exact Nat.min_le_right _ _
      · exact Nat.le_trans (ll _) (hF j hj y hy hg' hle hup e (by rw [z]; omega) t ht hot hgt)
    · rw [upn_n z] at he'
      exact Nat.le_trans (ll _) (hF j hj y hy hg' hle hup e he' t ht hot hgt)
  · by_cases z : v = pt (pn - 1)
    · rw [z, upn_s]; omega
    · rw [upn_n z]; exact (hN v hv).1
  · by_cases z : v = pt (pn - 1)
    · rw [z, upn_s] at he'
      by_cases w : e = nx (pt (pn - 1))
      · rw [z, w, he] at ht
        rw [show t = u by omega]; exact hu
      · exact (hN v hv).2.1 e (by rw [z]; omega) t ht
    · rw [upn_n z] at he'
      exact (hN v hv).2.1 e he' t ht
  · rw [upn_n (fun z => hq (pn - 1) (by omega) z.symm)]
    exact (hN v hv).2.2 hq
/-- what is not the lowest of its group has somebody ahead -/
theorem TJ_dn {M : Nat} {op : Nat → Prop} {dg : Nat → Nat} {ed : Nat → Nat → Nat} {od lw gp nx wt pt : Nat → Nat} {wn pn G T : Nat} (h : TJ M op dg ed od lw gp nx wt pt wn pn G T) (hp : 0 < pn) (hl : lw (pt (pn - 1)) ≠ od (pt (pn - 1))) : ∃ j, j < pn - 1 ∧ od (pt j) < od (pt (pn - 1)) ∧ Rc (TEd op dg ed) (pt (pn - 1)) (pt j) := by
  obtain ⟨hA, hB, hC, hD, hL, hF, hN, hK⟩ := h
  obtain ⟨h1, w, h2, h3, h4, h5⟩ := hL (pn - 1) (by omega)
  obtain ⟨j, hj, h6, h7⟩ := hD.2 w h2 h3
  have : od (pt j) < od (pt (pn - 1)) := by omega
  refine ⟨j, ?_, this, Rc_tr h5 h7⟩
  by_cases z : j = pn - 1
  · rw [z] at this; omega
  · omega
theorem TJ_lv1 {M : Nat} {op : Nat → Prop} {dg : Nat → Nat} {ed : Nat → Nat → Nat} {od lw gp nx wt pt : Nat → Nat} {wn pn G T : Nat} (h : TJ M op dg ed od lw gp nx wt pt wn pn G T) (hp : 2 ≤ pn) (hn : nx (pt (pn - 1)) = dg (pt (pn - 1))) (hl : lw (pt (pn - 1)) ≠ od (pt (pn - 1))) : TJ M op dg ed od (upn lw (pt (pn - 2)) (min (lw (pt (pn - 2))) (lw (pt (pn - 1))))) gp nx wt pt wn (pn - 1) G T := by
  obtain ⟨j0, j1, j2, j3⟩ := TJ_dn h (by omega) hl
  obtain ⟨hA, hB, hC, hD, hL, hF, hN, hK⟩ := h
  have ll : ∀ v, upn lw (pt (pn - 2)) (min (lw (pt (pn - 2))) (lw (pt (pn - 1)))) v ≤ lw v := by
    intro v
    by_cases z : v = pt (pn - 2)
    · rw [z, upn_s]; exact Nat.min_le_left _ _
    · rw [upn_n z]; exact Nat.le_refl _
  refine ⟨hA, hB, ⟨fun j hj => hC.1 j (by omega), fun i j hij hj => hC.2 i j hij (by omega)⟩, ⟨fun j hj => hD.1 j (by omega), fun y hy hg => ?_⟩, fun j hj => ?_, fun j hj y hy hg hle hup e he t ht hot hgt => ?_, fun v hv => ⟨(hN v hv).1, (hN v hv).2.1, fun hq => ?_⟩, hK⟩
  · obtain ⟨j, hj, h1, h2⟩ := hD.2 y hy hg
    by_cases z : j = pn - 1
    · rw [z] at h1 h2
      exact ⟨j0, j1, by omega, Rc_tr h2 j3⟩
    · exact ⟨j, by omega, h1, h2⟩
  · obtain ⟨h1, w, h2, h3, h4, h5⟩ := hL j (by omega)
    refine ⟨Nat.le_trans (ll _) h1, ?_⟩
    by_cases z : pt j = pt (pn - 2)
    · rw [z, upn_s]
      rcases Nat.le_total (lw (pt (pn - 2))) (lw (pt (pn - 1))) with q | q
      · rw [Nat.min_eq_left q]
        rw [z] at h4 h5
        exact ⟨w, h2, h3, h4, h5⟩
      · rw [Nat.min_eq_right q]
        obtain ⟨g1, w', g2, g3, g4, g5⟩ := hL (pn - 1) (by omega)
        exact ⟨w', g2, g3, g4, Rc_tr (hC.2 (pn - 2) (pn - 1) (by omega) (by omega)).2 g5⟩
    · rw [upn_n z]
      exact ⟨w, h2, h3, h4, h5⟩
  · by_cases z : j + 1 < pn - 1
    · exact Nat.le_trans (ll _) (hF j (by omega) y hy hg hle (fun _ => hup z) e he t ht hot hgt)
    · have ej : j = pn - 2 := by omega
      rcases Nat.lt_or_ge (od y) (od (pt (pn - 1))) with q | q
      · exact Nat.le_trans (ll _) (hF j (by omega) y hy hg hle (fun _ => by rw [show j + 1 = pn - 1 by omega]; exact q) e he t ht hot hgt)
      · have := hF (pn - 1) (by omega) y hy hg q (fun q' => by omega) e he t ht hot hgt
        rw [ej, upn_s]
        exact Nat.le_trans (Nat.min_le_right _ _) this
  · by_cases z : v = pt (pn - 1)
    · rw [z]; exact hn
    · refine (hN v hv).2.2 (fun j hj w => ?_)
      by_cases q : j = pn - 1
      · rw [q] at w; exact z w.symm
      · exact hq j (by omega) w
theorem TJ_lv2 {M : Nat} {op : Nat → Prop} {dg : Nat → Nat} {ed : Nat → Nat → Nat} {od lw lw1 gp gp1 nx wt pt : Nat → Nat} {wn pn G T k : Nat} (h : TJ M op dg ed od lw gp nx wt pt wn pn G T) (hp : 0 < pn) (hn : nx (pt (pn - 1)) = dg (pt (pn - 1))) (hl : lw (pt (pn - 1)) = od (pt (pn - 1))) (hlw : ∀ j, j < pn - 1 → lw1 (pt j) = lw (pt j)) (hk : k < wn) (ek : wt k = pt (pn - 1)) (g1 : ∀ y, od y ≠ 0 → gp y = 0 → od (pt (pn - 1)) ≤ od y → gp1 y = G + 1) (g2 : ∀ y, ¬ (od y ≠ 0 ∧ gp y = 0 ∧ od (pt (pn - 1)) ≤ od y) → gp1 y = gp y) : TJ M op dg ed od lw1 gp1 nx wt pt k (pn - 1) (G + 1) T := by
  obtain ⟨hA, hB, hC, hD, hL, hF, hN, hK⟩ := h
  have tp := fun j (hj : j < pn - 1) => (tj_top hC hp (show j < pn by omega)).2.2 (by omega)
  -- what is in the new group
  have S0 : ∀ y, od y ≠ 0 → gp y = 0 → od (pt (pn - 1)) ≤ od y → nx y = dg y := by
    intro y hy hg hle
    by_cases z : y = pt (pn - 1)
    · rw [z]; exact hn
    · refine (hN y hy).2.2 (fun j hj w => ?_)
      by_cases q : j = pn - 1
      · rw [q] at w; exact z w.symm
      · have := tp j (by omega)
        rw [w] at this
        omega
  have S1 : ∀ y, od y ≠ 0 → gp y = 0 → od (pt (pn - 1)) ≤ od y → ∀ e, e < dg y → ∀ u, ed y e = u + 1 → gp u ≠ 0 ∨ (od u ≠ 0 ∧ gp u = 0 ∧ od (pt (pn - 1)) ≤ od u) := by
    intro y hy hg hle e he u hu
    have en := S0 y hy hg hle
    have ou := (hN y hy).2.1 e (by omega) u hu
    by_cases z : gp u = 0
    · refine Or.inr ⟨ou, z, ?_⟩
      have := hF (pn - 1) (by omega) y hy hg hle (fun q => by omega) e (by omega) u hu ou z
      omega
    · exact Or.inl z
  have S2 : ∀ y z, od y ≠ 0 → gp y = 0 → od z ≠ 0 → gp z = 0 → od (pt (pn - 1)) ≤ od z → Rc (TEd op dg ed) y z := by
    intro y z hy hg hz hg' hle'
    obtain ⟨j, hj, h1, h2⟩ := hD.2 y hy hg
    exact Rc_tr (Rc_tr h2 (tj_top hC hp hj).1) (hD.1 (pn - 1) (by omega) z hz hg' hle')
  -- what is not
  have ol : ∀ y, od y ≠ 0 → gp1 y = 0 → gp y = 0 ∧ od y < od (pt (pn - 1)) := by
    intro y hy hg
    by_cases z : gp y = 0 ∧ od (pt (pn - 1)) ≤ od y
    · have := g1 y hy z.1 z.2; omega
    · have e := g2 y (fun q => z q.2)
      rw [e] at hg
      exact ⟨hg, Nat.lt_of_not_le (fun q => z ⟨hg, q⟩)⟩
  have lo : ∀ y, gp y = 0 → od y < od (pt (pn - 1)) → gp1 y = 0 := fun y hg hlt => by rw [g2 y (fun q => by omega)]; exact hg
  refine ⟨hA, ⟨fun i hi => ?_, fun i j hij hj => hB.2.1 i j hij (by omega), fun v hv hg => ?_⟩, ⟨fun j hj => ?_, fun i j hij hj => hC.2 i j hij (by omega)⟩, ⟨fun j hj y hy hg => ?_, fun y hy hg => ?_⟩, fun j hj => ?_, fun j hj y hy hg hle hup e he t ht hot hgt => ?_, fun v hv => ⟨(hN v hv).1, (hN v hv).2.1, fun hq => ?_⟩, fun v hv => ?_⟩
  · have a := hB.1 i (by omega)
    have b := hB.2.1 i k hi hk
    rw [ek] at b
    exact ⟨a.1, lo _ a.2 b⟩
  · obtain ⟨a, b⟩ := ol v hv hg
    obtain ⟨i, hi, e⟩ := hB.2.2 v hv a
    refine ⟨i, ?_, e⟩
    rcases Nat.lt_trichotomy i k with q | q | q
    · exact q
    · rw [← e, q, ek] at b; omega
    · have := hB.2.1 k i q hi
      rw [ek, e] at this
      omega
  · have a := hC.1 j (by omega)
    exact ⟨a.1, lo _ a.2 (tp j hj)⟩
  · exact hD.1 j (by omega) y hy (ol y hy hg).1
  · obtain ⟨a, b⟩ := ol y hy hg
    obtain ⟨j, hj, h1, h2⟩ := hD.2 y hy a
    refine ⟨j, ?_, h1, h2⟩
    by_cases z : j = pn - 1
    · rw [z] at h1; omega
    · omega
  · obtain ⟨h1, w, h2, h3, h4, h5⟩ := hL j (by omega)
    have := tp j hj
    rw [hlw j hj]
    exact ⟨h1, w, h2, lo w h3 (by omega), h4, h5⟩
  · obtain ⟨a, b⟩ := ol y hy hg
    rw [hlw j hj]
    refine hF j (by omega) y hy a hle (fun q => ?_) e he t ht hot (ol t hot hgt).1
    by_cases z : j + 1 < pn - 1
    · exact hup z
    · rw [show j + 1 = pn - 1 by omega]; exact b
  · by_cases z : v = pt (pn - 1)
    · rw [z]; exact hn
    · refine (hN v hv).2.2 (fun j hj w => ?_)
      by_cases q : j = pn - 1
      · rw [q] at w; exact z w.symm
      · exact hq j (by omega) w
  · by_cases z : od v ≠ 0 ∧ gp v = 0 ∧ od (pt (pn - 1)) ≤ od v
    · have ev := g1 v z.1 z.2.1 z.2.2
      rw [ev]
      refine ⟨z.1, Nat.le_refl _, fun e he u hu => ?_, fun u hu => ?_⟩
      · rcases S1 v z.1 z.2.1 z.2.2 e he u hu with q | q
        · rw [g2 u (fun y => q y.2.1)]
          have := (hK u q).2.1
          exact ⟨q, by omega⟩
        · rw [g1 u q.1 q.2.1 q.2.2]; exact ⟨by omega, Nat.le_refl _⟩
      · by_cases q : od u ≠ 0 ∧ gp u = 0 ∧ od (pt (pn - 1)) ≤ od u
        · exact S2 v u z.1 z.2.1 q.1 q.2.1 q.2.2
        · rw [g2 u q] at hu
          have := (hK u (by omega)).2.1
          omega
    · have ev := g2 v z
      rw [ev] at hv ⊢
      obtain ⟨a1, a2, a3, a4⟩ := hK v hv
      refine ⟨a1, by omega, fun e he u hu => ?_, fun u hu => ?_⟩
      · obtain ⟨b1, b2⟩ := a3 e he u hu
        rw [g2 u (fun y => b1 y.2.1)]
        exact ⟨b1, b2⟩
      · by_cases q : od u ≠ 0 ∧ gp u = 0 ∧ od (pt (pn - 1)) ≤ od u
        · rw [g1 u q.1 q.2.1 q.2.2] at hu; omega
        · rw [g2 u q] at hu
          exact a4 u hu
/-- when nothing is on the way all that was entered is closed -/
theorem TJ_cl {M : Nat} {op : Nat → Prop} {dg : Nat → Nat} {ed : Nat → Nat → Nat} {od lw gp nx wt pt : Nat → Nat} {wn G T : Nat} (h : TJ M op dg ed od lw gp nx wt pt wn 0 G T) : wn = 0 ∧ ∀ v, od v ≠ 0 → gp v ≠ 0 := by
  obtain ⟨hA, hB, hC, hD, hL, hF, hN, hK⟩ := h
  have k : ∀ v, od v ≠ 0 → gp v ≠ 0 := fun v hv z => by
    obtain ⟨j, hj, _⟩ := hD.2 v hv z
    omega
  refine ⟨?_, k⟩
  rcases Nat.eq_zero_or_pos wn with z | z
  · exact z
  · have := hB.1 0 z
    exact absurd this.2 (k _ this.1)
/-- what is joined: closed groups, later ones lead to earlier ones -/
def JGr (op : Nat → Prop) (dg : Nat → Nat) (ed : Nat → Nat → Nat) (M : Nat) (gp : Nat → Nat) (G : Nat) : Prop := (∀ v, gp v ≠ 0 → v < M ∧ op v ∧ gp v ≤ G) ∧ (∀ v, v < M → op v → gp v ≠ 0) ∧ (∀ v, gp v ≠ 0 → ∀ e, e < dg v → ∀ u, ed v e = u + 1 → gp u ≠ 0 ∧ gp u ≤ gp v) ∧ ∀ v u, gp v ≠ 0 → gp u = gp v → Rc (TEd op dg ed) v u
theorem JGr_of {M : Nat} {op : Nat → Prop} {dg : Nat → Nat} {ed : Nat → Nat → Nat} {od lw gp nx wt pt : Nat → Nat} {wn G T : Nat} (h : TJ M op dg ed od lw gp nx wt pt wn 0 G T) (ha : ∀ v, v < M → op v → od v ≠ 0) : JGr op dg ed M gp G := by
  have k := (TJ_cl h).2
  obtain ⟨hA, hB, hC, hD, hL, hF, hN, hK⟩ := h
  refine ⟨fun v hv => ?_, fun v h1 h2 => k v (ha v h1 h2), fun v hv => (hK v hv).2.2.1, fun v u hv e => (hK v hv).2.2.2 u e⟩
  have := hA.1 v (hK v hv).1
  exact ⟨this.1, this.2.1, (hK v hv).2.1⟩
theorem JGr_mo {M : Nat} {op : Nat → Prop} {dg : Nat → Nat} {ed : Nat → Nat → Nat} {gp : Nat → Nat} {G u v : Nat} (h : JGr op dg ed M gp G) (hu : gp u ≠ 0) (hr : Rc (TEd op dg ed) u v) : gp v ≠ 0 ∧ gp v ≤ gp u := by
  refine Rc_in (p := fun x => gp x ≠ 0 ∧ gp x ≤ gp u) hr ⟨hu, Nat.le_refl _⟩ (fun x y hx ⟨_, e, he, hy⟩ => ?_)
  have := h.2.2.1 x hx.1 e he y hy
  exact ⟨this.1, Nat.le_trans this.2 hx.2⟩
/-- of one group are those that can each be come to from each other -/
theorem JGr_iff {M : Nat} {op : Nat → Prop} {dg : Nat → Nat} {ed : Nat → Nat → Nat} {gp : Nat → Nat} {G u v : Nat} (h : JGr op dg ed M gp G) (hu : gp u ≠ 0) (hv : gp v ≠ 0) : gp u = gp v ↔ Rc (TEd op dg ed) u v ∧ Rc (TEd op dg ed) v u := by
  constructor
  · intro e
    exact ⟨h.2.2.2 u v hu e.symm, h.2.2.2 v u hv e⟩
  · rintro ⟨a, b⟩
    exact Nat.le_antisymm (JGr_mo h hv b).2 (JGr_mo h hu a).2
