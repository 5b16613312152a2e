def upn (f : Nat → Nat) (k x i : Nat) : Nat := if i = k then x else f i
theorem upn_s {f : Nat → Nat} {k x : Nat} : upn f k x k = x := if_pos rfl
theorem upn_n {f : Nat → Nat} {k x i : Nat} (h : i ≠ k) : upn f k x i = f i := if_neg h
/-- the class's search: each folded world by one world, that of the least way -/
def Wy (P : Nat → Nat) (N w c : Nat) (ow fk dp pa st : Nat → Nat) : Prop :=
  (ow 0 = wx0 P ∧ pa 0 = 0) ∧ (∀ i, i < N → kv (P 3) (ow i) ∧ fk i = fo (P 3) (ow i)) ∧ (∀ i, 0 < i → i < N → 0 < pa i ∧ pa i ≤ i ∧ st i < 64 ∧ sP P (ow (pa i - 1)) (st i) = some (ow i) ∧ dp i = dp (pa i - 1) + 1) ∧ (∀ i j, 0 < i → i < j → j < N → pa i < pa j ∨ (pa i = pa j ∧ st i < st j)) ∧ (∀ j c', j < N → c' < 64 → (j < w ∨ (j = w ∧ c' < c)) → ∀ y, sP P (ow j) c' = some y → ∃ k, k < N ∧ fk k = fo (P 3) y ∧ (pa k ≤ j ∨ (pa k = j + 1 ∧ st k ≤ c'))) ∧ (∀ i, i < N → pa i ≤ w ∨ (pa i = w + 1 ∧ st i < c))
def SIv (P : Nat → Nat) (N w c : Nat) (ow fk dp pa st : Nat → Nat) : Prop := Bf (Ed P 16) (wx0 P) N w (fun y => ∃ c', c' < c ∧ (sP P (ow w) c').map (fo (P 3)) = some y) fk dp ∧ Wy P N w c ow fk dp pa st
theorem SIv_0 {P : Nat → Nat} {ow fk dp pa st : Nat → Nat} (h : tV P) (h1 : ow 0 = wx0 P) (h2 : fk 0 = fo (P 3) (wx0 P)) (h3 : dp 0 = 0) (h4 : pa 0 = 0) : SIv P 1 0 0 ow fk dp pa st := by
  refine ⟨Bf_Q (Bf_0 (h2.trans (wx0_fo h)) h3) (fun y ⟨c', h5, _⟩ => by omega), ⟨h1, h4⟩, fun i hi => ?_, fun i h5 h6 => by omega, fun i j h5 h6 h7 => by omega, fun j c' h5 h6 h7 => by omega, fun i hi => ?_⟩
  · rw [show i = 0 by omega, h1, h2]; exact ⟨wx0_kv h, rfl⟩
  · rw [show i = 0 by omega, h4]; exact Or.inl (Nat.le_refl _)
theorem SIv_sk {P : Nat → Nat} {N w c c2 : Nat} {ow fk dp pa st : Nat → Nat} (h : SIv P N w c ow fk dp pa st) (hc : c ≤ c2) (hn : ∀ c', c ≤ c' → c' < c2 → sP P (ow w) c' = none) : SIv P N w c2 ow fk dp pa st := by
  obtain ⟨b, w1, w2, w3, w4, w5, w6⟩ := h
  refine ⟨Bf_Q b (fun y ⟨c', h5, h6⟩ => ?_), w1, w2, w3, w4, fun j c' h5 h6 h7 y e => ?_, fun i hi => ?_⟩
  · rcases Nat.lt_or_ge c' c with u | u
    · exact ⟨c', u, h6⟩
    · rw [hn c' u h5] at h6; cases h6
  · rcases h7 with h7 | ⟨h7, h8⟩
    · exact w5 j c' h5 h6 (Or.inl h7) y e
    · rcases Nat.lt_or_ge c' c with u | u
      · exact w5 j c' h5 h6 (Or.inr ⟨h7, u⟩) y e
      · rw [h7, hn c' u h8] at e; cases e
  · have := w6 i hi
    omega
theorem SIv_old {P : Nat → Nat} {N w c y k : Nat} {ow fk dp pa st : Nat → Nat} (h : SIv P N w c ow fk dp pa st) (e : sP P (ow w) c = some y) (hk : k < N) (hf : fk k = fo (P 3) y) : SIv P N w (c + 1) ow fk dp pa st := by
  obtain ⟨b, w1, w2, w3, w4, w5, w6⟩ := h
  refine ⟨Bf_Q (Bf_old b hk hf) (fun z ⟨c', h5, h6⟩ => ?_), w1, w2, w3, w4, fun j c' h5 h6 h7 z ez => ?_, fun i hi => ?_⟩
  · by_cases u : c' = c
    · rw [u, e] at h6
      cases h6
      exact Or.inr rfl
    · exact Or.inl ⟨c', by omega, h6⟩
  · by_cases u : j = w ∧ c' = c
    · rw [u.1, u.2, e] at ez
      cases ez
      refine ⟨k, hk, hf, ?_⟩
      have := w6 k hk
      omega
    · exact w5 j c' h5 h6 (by omega) z ez
  · have := w6 i hi
    omega
theorem SIv_new {P : Nat → Nat} {N w c y : Nat} {ow fk dp pa st : Nat → Nat} (hP : tV P) (h : SIv P N w c ow fk dp pa st) (hw : w < N) (hc : c < 64) (e : sP P (ow w) c = some y) (hn : ∀ k, k < N → fk k ≠ fo (P 3) y) : SIv P (N + 1) w (c + 1) (upn ow N y) (upn fk N (fo (P 3) y)) (upn dp N (dp w + 1)) (upn pa N (w + 1)) (upn st N c) := by
  obtain ⟨b, w1, w2, w3, w4, w5, w6⟩ := h
  have N0 : 0 < N := by omega
  have ow' : ∀ i, i < N → upn ow N y i = ow i := fun i hi => upn_n (by omega)
  have fk' : ∀ i, i < N → upn fk N (fo (P 3) y) i = fk i := fun i hi => upn_n (by omega)
  have dp' : ∀ i, i < N → upn dp N (dp w + 1) i = dp i := fun i hi => upn_n (by omega)
  have pa' : ∀ i, i < N → upn pa N (w + 1) i = pa i := fun i hi => upn_n (by omega)
  have st' : ∀ i, i < N → upn st N c i = st i := fun i hi => upn_n (by omega)
  have sp : ∀ i, i < N + 1 → i = N ∨ i < N := fun i hi => by omega
  have hE : Ed P 16 (fk w) (fo (P 3) y) := by
    rw [(w2 w hw).2]
    exact (Ed_fo hP (w2 w hw).1).mpr ⟨c, hc, by omega, by rw [e]; rfl⟩
  refine ⟨Bf_Q (Bf_new b hw hE hn (fun i hi => ⟨fk' i hi, dp' i hi⟩) upn_s upn_s) (fun z ⟨c', h5, h6⟩ => ?_), ⟨?_, ?_⟩, fun i hi => ?_, fun i h0 hi => ?_, fun i j h0 hij hj => ?_, fun j c' h5 h6 h7 z ez => ?_, fun i hi => ?_⟩
  · rw [ow' w hw] at h6
    by_cases u : c' = c
    · rw [u, e] at h6
      cases h6
      exact Or.inr rfl
    · exact Or.inl ⟨c', by omega, h6⟩
  · rw [ow' 0 N0]; exact w1.1
  · rw [pa' 0 N0]; exact w1.2
  · rcases sp i hi with u | u
    · rw [u, upn_s, upn_s]; exact ⟨sP_kv hP (w2 w hw).1 e, rfl⟩
    · rw [ow' i u, fk' i u]; exact w2 i u
  · rcases sp i hi with u | u
    · rw [u, upn_s, upn_s, upn_s, upn_s, show w + 1 - 1 = w by omega, ow' w hw, dp' w hw]
      exact ⟨by omega, by omega, hc, e, rfl⟩
    · obtain ⟨a1, a2, a3, a4, a5⟩ := w3 i h0 u
      rw [pa' i u, st' i u, ow' i u, dp' i u, ow' _ (by omega), dp' _ (by omega)]
      exact ⟨a1, a2, a3, a4, a5⟩
  · rcases sp j hj with u | u
    · rw [u, upn_s, upn_s, pa' i (by omega), st' i (by omega)]
      have := w6 i (by omega)
      omega
    · rw [pa' i (by omega), st' i (by omega), pa' j u, st' j u]
      exact w4 i j h0 hij u
  · have jN : j < N := by omega
    rw [ow' j jN] at ez
    by_cases u : j = w ∧ c' = c
    · rw [u.1, u.2, e] at ez
      cases ez
      refine ⟨N, by omega, upn_s, ?_⟩
      rw [upn_s, upn_s]
      omega
    · obtain ⟨k, h8, h9, h10⟩ := w5 j c' jN h6 (by omega) z ez
      exact ⟨k, by omega, by rw [fk' k h8]; exact h9, by rw [pa' k h8, st' k h8]; exact h10⟩
  · rcases sp i hi with u | u
    · rw [u, upn_s, upn_s]; omega
    · rw [pa' i u, st' i u]
      have := w6 i u
      omega
theorem SIv_nx {P : Nat → Nat} {N w : Nat} {ow fk dp pa st : Nat → Nat} (hP : tV P) (h : SIv P N w 64 ow fk dp pa st) (hw : w < N) : SIv P N (w + 1) 0 ow fk dp pa st := by
  obtain ⟨b, w1, w2, w3, w4, w5, w6⟩ := h
  refine ⟨Bf_Q (Bf_next b hw (fun y hy => ?_)) (fun y ⟨c', h5, _⟩ => by omega), w1, w2, w3, w4, fun j c' h5 h6 h7 z ez => w5 j c' h5 h6 (by omega) z ez, fun i hi => ?_⟩
  · rw [(w2 w hw).2] at hy
    obtain ⟨c, h1, h2, h3⟩ := (Ed_fo hP (w2 w hw).1).mp hy
    exact ⟨c, h1, h3⟩
  · have := w6 i hi
    omega
/-- cells and fields that stay -/
def kps (C : List Nat) (G : List (Nat × Nat)) (S : List Nat) (F : List (Nat × Nat)) : Bool := C.all (fun c => !S.contains c && F.all (fun f => decide (f.1 ≠ c))) && G.all (fun g => !S.contains g.1 && !F.contains g)
theorem kps_c {C : List Nat} {G : List (Nat × Nat)} {S : List Nat} {F : List (Nat × Nat)} {c : Nat} (h : kps C G S F = true) (hc : c ∈ C) (j : Nat) : inS S F c j = false := by
  unfold kps at h
  rw [Bool.and_eq_true, List.all_eq_true] at h
  have h1 := h.1 c hc
  rw [Bool.and_eq_true, List.all_eq_true] at h1
  unfold inS
  have e1 : S.contains c = false := by simpa using h1.1
  have e2 : F.contains (c, j) = false := by
    cases e : F.contains (c, j) with
    | false => rfl
    | true =>
      rw [List.contains_iff_mem] at e
      have := of_decide_eq_true (h1.2 _ e)
      exact absurd rfl this
  rw [e1, e2]
  rfl
theorem kps_g {C : List Nat} {G : List (Nat × Nat)} {S : List Nat} {F : List (Nat × Nat)} {c j : Nat} (h : kps C G S F = true) (hc : (c, j) ∈ G) : inS S F c j = false := by
  unfold kps at h
  rw [Bool.and_eq_true, List.all_eq_true, List.all_eq_true] at h
  have h1 := h.2 _ hc
  unfold inS
  simp only [Bool.and_eq_true, Bool.not_eq_true'] at h1
  rw [h1.1, h1.2]
  rfl
def sbs (S : List Nat) (F : List (Nat × Nat)) (S' : List Nat) (F' : List (Nat × Nat)) : Bool := S.all (fun s => S'.contains s) && F.all (fun f => S'.contains f.1 || F'.contains f)
theorem fl2_su {S S' : List Nat} {F F' : List (Nat × Nat)} {m m' : zM} (h : fl2 S F m m') (hs : sbs S F S' F' = true) : fl2 S' F' m m' := by
  refine ⟨fun k j hk => h.1 k j ?_, h.2⟩
  unfold sbs at hs
  rw [Bool.and_eq_true, List.all_eq_true, List.all_eq_true] at hs
  unfold inS at hk ⊢
  rw [Bool.or_eq_false_iff] at hk ⊢
  constructor
  · cases e : S.contains k with
    | false => rfl
    | true =>
      have := hs.1 k (List.contains_iff_mem.mp e)
      rw [hk.1] at this
      cases this
  · cases e : F.contains (k, j) with
    | false => rfl
    | true =>
      have := hs.2 _ (List.contains_iff_mem.mp e)
      rw [hk.1, hk.2] at this
      cases this
def SXm (N : Nat) (ow fk dp pa st : Nat → Nat) (m : zM) : Prop := m.1 7 8 = nI N ∧ (∀ i, i < N → m.2.1 11 i = lN (ow i) ∧ m.2.1 12 i = lN (fk i) ∧ m.1 13 i = nI (dp i) ∧ m.1 14 i = nI (pa i) - 1 ∧ m.1 15 i = nI (st i)) ∧ prb (m.1 10) (fun i => lN (fk i)) N ∧ sky 8 (fun i => lN (fk i)) N m
theorem SXm_fl {N : Nat} {ow fk dp pa st : Nat → Nat} {m m' : zM} {S : List Nat} {F : List (Nat × Nat)} (h : SXm N ow fk dp pa st m) (hf : fl2 S F m m') (hk : kps [9, 10, 11, 12, 13, 14, 15] [(7, 8)] S F = true) : SXm N ow fk dp pa st m' := by
  have ci : ∀ c, c ∈ [9, 10, 11, 12, 13, 14, 15] → m'.1 c = m.1 c := fun c hc => fl2_ic hf (kps_c hk hc)
  have cj : ∀ c, c ∈ [9, 10, 11, 12, 13, 14, 15] → m'.2.1 c = m.2.1 c := fun c hc => fl2_jc hf (kps_c hk hc)
  obtain ⟨h1, h2, h3, h4⟩ := h
  refine ⟨by rw [fl2_i hf (kps_g hk (by simp))]; exact h1, ?_, ?_, ?_⟩
  · rw [cj 11 (by simp), cj 12 (by simp), ci 13 (by simp), ci 14 (by simp), ci 15 (by simp)]; exact h2
  · rw [ci 10 (by simp)]; exact h3
  · unfold sky
    rw [ci (8 + 2) (by simp), cj (8 + 1) (by simp)]; exact h4
theorem foldK {w n x : Nat} {m : zM} (hw : wX w n (dh n x) (da n x) m) (hx : kv n x) (hz : zlen gX (w + 3) = 4) : ok (f_World_foldedKey w m) (fun p => fl2 [w + 2, w + 3] [] m p.2 ∧ p.1 = lN (fo n x) ∧ ∀ i, i < n → p.2.1 (w + 2) i = nI (rk n (da n x) i)) := by
  refine ok_mo (foldX hw (kv_w hx) hz) (fun p ⟨h1, b, h2, h3, h4, h5⟩ => ⟨h1, ?_, fun i hi => (h5 i hi).1⟩)
  rw [h4, fo_of (kv_w hx) h2, ky_d]
theorem wX_fl {w n h : Nat} {a : Nat → Nat} {m m' : zM} {S : List Nat} {F : List (Nat × Nat)} (hw : wX w n h a m) (hf : fl2 S F m m') (hk : kps [w, w + 1] [] S F = true) : wX w n h a m' := by
  have e1 : m'.1 w = m.1 w := fl2_ic hf (kps_c hk (by simp))
  have e2 : m'.1 (w + 1) = m.1 (w + 1) := fl2_ic hf (kps_c hk (by simp))
  unfold wX
  rw [e1, e2]
  exact hw
theorem ownX {w n x : Nat} {m : zM} (hw : wX w n (dh n x) (da n x) m) (hx : kv n x) (hz : zlen gX (w + 1) = 4) : f_World_ownKey w m = some (lN x) := by
  unfold f_World_ownKey
  rw [keyX hw.1 hw.2.1 hw.2.2 hz (kv_w hx), Option.bind_some, ky_d]
theorem meetX {n N y pv sv dd : Nat} {v1 v2 : Int32} {ow fk dp pa st : Nat → Nat} {m : zM} (hS : SXm N ow fk dp pa st m) (hN : N ≤ 600) (hw : wX 20 n (dh n y) (da n y) m) (hy : kv n y) (hfk : ∀ i, i < N → fk i < 2 ^ 63) (hv1 : v1 = nI pv - 1) (hv2 : v2 = nI sv) (hd0 : pv = 0 → dd = 0) (hd1 : 0 < pv → pv - 1 < N ∧ dd = dp (pv - 1) + 1) (hp : pv < 1000) : ok (f_Search_meet v1 v2 m) (fun p => fl2 [9, 10, 11, 12, 13, 14, 15, 22, 23] [(7, 8)] m p.2 ∧ ((p.1 = true ∧ (∃ k, k < N ∧ fk k = fo n y) ∧ SXm N ow fk dp pa st p.2) ∨ (p.1 = true ∧ N < 600 ∧ (∀ k, k < N → fk k ≠ fo n y) ∧ SXm (N + 1) (upn ow N y) (upn fk N (fo n y)) (upn dp N dd) (upn pa N pv) (upn st N sv) p.2) ∨ (p.1 = false ∧ N = 600 ∧ ∀ k, k < N → fk k ≠ fo n y))) := by
  have fl48 := kv_lt (fo_kv hy)
  unfold f_Search_meet
  refine ok_bi (foldK hw hy (by decide)) (fun p1 ⟨f1, e1, _⟩ => ?_)
  have S1 := SXm_fl hS f1 (by decide)
  have w1 : wX 20 n (dh n y) (da n y) p1.2 := wX_fl hw f1 (by decide)
  have f1' : fl2 [9, 10, 11, 12, 13, 14, 15, 22, 23] [(7, 8)] m p1.2 := fl2_su f1 (by decide)
  rw [e1]
  refine ok_bi (findX (v := lN (fo n y)) S1.2.2.1 S1.2.2.2 (by omega)) (fun r hr => ?_)
  have ne : ∀ k, k < N → lN (fk k) ≠ lN (fo n y) → fk k ≠ fo n y := fun k _ h z => h (by rw [z])
  rcases hr with ⟨i, hi, e2, e3⟩ | ⟨e3, e2⟩
  · rw [e3]
    refine ok_in (nI_ne_m1 (by omega)) (ok_mk ⟨f1', Or.inl ⟨rfl, ⟨i, hi, (pk_lEQ (hfk i hi) (by omega)).mp e2⟩, S1⟩⟩)
  · have hne : ∀ k, k < N → fk k ≠ fo n y := fun k hk => ne k hk (e2 k hk)
    refine ok_ip e3 ?_
    refine ok_ee N 600 (fun q => ok_mk ⟨f1', Or.inr (Or.inr ⟨rfl, q, hne⟩)⟩) (fun q => ?_) (hx := S1.1)
    have hN' : N < 600 := by omega
    rw [S1.1]
    refine ok_bi (putX (ke' := fun i => lN (upn fk N (fo n y) i)) S1.2.2.1 S1.2.2.2 (by omega) e2 (fun i hi => by show lN (upn fk N (fo n y) i) = _; rw [upn_n (by omega)]) (by show lN (upn fk N (fo n y) N) = _; rw [upn_s])) (fun p3 ⟨g1, g2, g3⟩ => ?_)
    have S78 : p3.1 7 8 = nI N := by rw [fl2_i g3 (by decide)]; exact S1.1
    refine ok_ix S78 hN' (by decide) (ok_lt ?_)
    have w3 : wX 20 n (dh n y) (da n y) (sJ p3 12 N (lN (fo n y))) := wX_fl w1 (fl2_tr (S := [9, 10, 12]) (F := []) (fl2_su g3 (by decide)) (fl2_J (inS_c (by simp)))) (by decide)
    refine ok_eb (ownX w3 hy (by decide)) (ok_ix (show (sJ p3 12 N (lN (fo n y))).1 7 8 = nI N from S78) hN' (by decide) (ok_lt ?_))
    have fin : ∀ t2 : Int32, t2 = nI dd → ok (f_Search_meet_J97 v1 v2 13 ((sJ (sJ p3 12 N (lN (fo n y))) 11 N (lN y)).1 7 8) t2 (sJ (sJ p3 12 N (lN (fo n y))) 11 N (lN y))) (fun p => fl2 [9, 10, 11, 12, 13, 14, 15, 22, 23] [(7, 8)] m p.2 ∧ ((p.1 = true ∧ (∃ k, k < N ∧ fk k = fo n y) ∧ SXm N ow fk dp pa st p.2) ∨ (p.1 = true ∧ N < 600 ∧ (∀ k, k < N → fk k ≠ fo n y) ∧ SXm (N + 1) (upn ow N y) (upn fk N (fo n y)) (upn dp N dd) (upn pa N pv) (upn st N sv) p.2) ∨ (p.1 = false ∧ N = 600 ∧ ∀ k, k < N → fk k ≠ fo n y))) := by
      intro t2 ht
      unfold f_Search_meet_J97
      refine ok_ix (show (sJ (sJ p3 12 N (lN (fo n y))) 11 N (lN y)).1 7 8 = nI N from S78) (show N < zlen gX 13 from hN') (by decide) (ok_lt ?_)
      refine ok_ix (show (sI (sJ (sJ p3 12 N (lN (fo n y))) 11 N (lN y)) 13 N t2).1 7 8 = nI N by rw [rd_I0 (by omega)]; exact S78) hN' (by decide) (ok_lt ?_)
      refine ok_ix (show (sI (sI (sJ (sJ p3 12 N (lN (fo n y))) 11 N (lN y)) 13 N t2) 14 N v1).1 7 8 = nI N by rw [rd_I0 (by omega), rd_I0 (by omega)]; exact S78) hN' (by decide) (ok_lt (ok_lt (ok_mk ⟨?_, Or.inr (Or.inl ⟨rfl, hN', hne, ?_⟩)⟩)))
      · refine fl2_tr f1' (fl2_tr (fl2_su g3 (by decide)) (fl2_tr (fl2_J (inS_c (by simp))) (fl2_tr (fl2_J (inS_c (by simp))) (fl2_tr (fl2_I (inS_c (by simp))) (fl2_tr (fl2_I (inS_c (by simp))) (fl2_tr (fl2_I (inS_c (by simp))) (fl2_I (inS_f (by simp)))))))))
      · have p11 : ∀ i, p3.2.1 11 i = p1.2.2.1 11 i := fun i => fl2_j g3 (by simp [inS])
        have p12 : ∀ i, p3.2.1 12 i = p1.2.2.1 12 i := fun i => fl2_j g3 (by simp [inS])
        have p13 : ∀ i, p3.1 13 i = p1.2.1 13 i := fun i => fl2_i g3 (by simp [inS])
        have p14 : ∀ i, p3.1 14 i = p1.2.1 14 i := fun i => fl2_i g3 (by simp [inS])
        have p15 : ∀ i, p3.1 15 i = p1.2.1 15 i := fun i => fl2_i g3 (by simp [inS])
        refine ⟨?_, fun i hi => ⟨?_, ?_, ?_, ?_, ?_⟩, ?_, ?_⟩
        · rw [rd_I1, rd_I0 (by omega), rd_I0 (by omega), rd_I0 (by omega)]
          show p3.1 7 8 + 1 = _
          rw [S78, nI_1]
        · show (sJ (sJ p3 12 N (lN (fo n y))) 11 N (lN y)).2.1 11 i = _
          by_cases u : i = N
          · rw [u, rd_J1, upn_s]
          · rw [rd_J0 (by omega), rd_J0 (by omega), p11, upn_n u]; exact (S1.2.1 i (by omega)).1
        · show (sJ (sJ p3 12 N (lN (fo n y))) 11 N (lN y)).2.1 12 i = _
          rw [rd_J0 (by omega)]
          by_cases u : i = N
          · rw [u, rd_J1, upn_s]
          · rw [rd_J0 (by omega), p12, upn_n u]; exact (S1.2.1 i (by omega)).2.1
        · rw [rd_I0 (by omega), rd_I0 (by omega), rd_I0 (by omega)]
          by_cases u : i = N
          · rw [u, rd_I1, upn_s]; exact ht
          · rw [rd_I0 (by omega), upn_n u]
            exact (p13 i).trans (S1.2.1 i (by omega)).2.2.1
        · rw [rd_I0 (by omega), rd_I0 (by omega)]
          by_cases u : i = N
          · rw [u, rd_I1, upn_s]; exact hv1
          · rw [rd_I0 (by omega), rd_I0 (by omega), upn_n u]
            exact (p14 i).trans (S1.2.1 i (by omega)).2.2.2.1
        · rw [rd_I0 (by omega)]
          by_cases u : i = N
          · rw [u, rd_I1, upn_s]; exact hv2
          · rw [rd_I0 (by omega), rd_I0 (by omega), rd_I0 (by omega), upn_n u]
            exact (p15 i).trans (S1.2.1 i (by omega)).2.2.2.2
        · have e : (sI (sI (sI (sI (sJ (sJ p3 12 N (lN (fo n y))) 11 N (lN y)) 13 N t2) 14 N v1) 15 N v2) 7 8 ((sI (sI (sI (sJ (sJ p3 12 N (lN (fo n y))) 11 N (lN y)) 13 N t2) 14 N v1) 15 N v2).1 7 8 + 1)).1 10 = p3.1 10 := by
            rw [rd_Ic (by decide), rd_Ic (by decide), rd_Ic (by decide), rd_Ic (by decide)]
            rfl
          rw [e]
          exact g1
        · intro s i hs hi e
          show (sJ (sJ p3 12 N (lN (fo n y))) 11 N (lN y)).2.1 9 s = _
          rw [rd_J0 (by omega), rd_J0 (by omega)]
          refine g2 s i hs hi ?_
          rw [rd_I0 (by omega), rd_I0 (by omega), rd_I0 (by omega), rd_I0 (by omega)] at e
          exact e
    refine ok_mm pv (fun q => fin 0 (by rw [hd0 q]; rfl)) (fun q => ?_) (hx := hv1)
    obtain ⟨h1, h2⟩ := hd1 q
    refine ok_ix (show v1 = nI (pv - 1) by rw [hv1]; exact nI_pr q) (show pv - 1 < 600 by omega) (by decide) (fin _ ?_)
    show p3.1 13 (pv - 1) + 1 = _
    rw [show p3.1 13 (pv - 1) = p1.2.1 13 (pv - 1) from fl2_i g3 (by simp [inS]), (S1.2.1 _ h1).2.2.1, nI_1, h2]
