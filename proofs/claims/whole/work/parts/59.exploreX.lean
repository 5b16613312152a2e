theorem wX_cg {w n h : Nat} {a b : Nat → Nat} {m : zM} (hw : wX w n h a m) (e : ∀ j, j < n → b j = a j) : wX w n h b m := ⟨hw.1, hw.2.1, fun i hi => by rw [e i hi]; exact hw.2.2 i hi⟩
def goQ (P : Nat → Nat) (w x c : Nat) (m : zM) (p : Bool × zM) : Prop := fl2 [w, w + 1] [] m p.2 ∧ (∀ y, sP P x c = some y → p.1 = true ∧ kv (P 3) y ∧ wX w (P 3) (dh (P 3) y) (da (P 3) y) p.2) ∧ (sP P x c = none → p.1 = false)
theorem goP {P : Nat → Nat} {b v w x r i : Nat} {m : zM} (hb : tbv b) (hP : tV P) (ht : tX b P m) (hx : kv (P 3) x) (hw : wX v (P 3) (dh (P 3) x) (da (P 3) x) m) (hr : r < P 8) (hi : i < P 3) (h1 : v ≠ w) (h2 : v + 1 ≠ w) (h3 : v ≠ w + 1) (h66 : w + 1 < 66) : ok (f_Table_go b v (nI r) (nI i) w m) (goQ P w x (4 * r + i) m) := by
  have r16 := hP.1.2.2.2.2.2.2.2.2.2.2.1
  have hF := tV_F hP hr
  have hb66 : 66 ≤ b := by rcases hb with e | e <;> omega
  have e := sP_ye (x := x) hr hi hx.2.1
  refine ok_mo (goX (l := P 4) (by omega) (ht.2.2.1 r hr) hF ht.1.2.1 hP.1.2.2.2.2.2.2.1 hw (kv_w hx) hi h1 h2 h3 (by omega) (by omega) (by omega) (by omega)) (fun p hp => ?_)
  obtain ⟨p1, p2, p3⟩ := hp
  refine ⟨p1, fun y hy => ?_, fun hn => p3 ?_⟩
  · rw [e] at hy
    unfold sx at hy
    cases em : mv (P 4) (P 3) (tF P r) (dh (P 3) x) (da (P 3) x) i with
    | none => rw [em] at hy; cases hy
    | some q =>
      rw [em] at hy
      cases hy
      have wv := mv_wV hF (kv_w hx) hi em
      obtain ⟨d1, d2⟩ := dk_ky (h := q.1) wv.2.2.2
      obtain ⟨q1, q2⟩ := p2 q em
      refine ⟨q1, kv_k wv, ?_⟩
      show wX w (P 3) (dh (P 3) (ky 2058 q.1 q.2 (P 3))) (da (P 3) (ky 2058 q.1 q.2 (P 3))) p.2
      rw [d1]
      exact wX_cg q2 d2
  · rw [e] at hn
    unfold sx at hn
    cases em : mv (P 4) (P 3) (tF P r) (dh (P 3) x) (da (P 3) x) i with
    | none => rfl
    | some q => rw [em] at hn; cases hn
/-- more than 600 can be come to -/
def bigP (P : Nat → Nat) (w : Nat) : Prop := ∃ fk dp : Nat → Nat, (∀ i, i < 601 → Rn (Ed P w) (wx0 P) (dp i) (fk i)) ∧ ∀ i j, i < 601 → j < 601 → fk i = fk j → i = j
theorem bigP_of {P : Nat → Nat} {w c y : Nat} {ow fk dp pa st : Nat → Nat} (hP : tV P) (h : SIv P 600 w c ow fk dp pa st) (hw : w < 600) (hc : c < 64) (e : sP P (ow w) c = some y) (hn : ∀ k, k < 600 → fk k ≠ fo (P 3) y) : bigP P 16 := by
  have k := SIv_new hP h hw hc e hn
  exact ⟨_, _, k.1.2.1, k.1.2.2.1⟩
def SEx (P : Nat → Nat) (w c : Nat) (m m' : zM) : Prop := fl2 [9, 10, 11, 12, 13, 14, 15, 20, 21, 22, 23] [(7, 8)] m m' ∧ ∃ (N : Nat) (ow fk dp pa st : Nat → Nat), N ≤ 600 ∧ w < N ∧ SXm N ow fk dp pa st m' ∧ SIv P N w c ow fk dp pa st ∧ wX 16 (P 3) (dh (P 3) (ow w)) (da (P 3) (ow w)) m'
theorem expandX {P : Nat → Nat} {b w : Nat} {m0 m : zM} (hb : tbv b) (hP : tV P) (ht : tX b P m0) (h : SEx P w 0 m0 m) : ok (f_Search_expand (nI w) b m) (fun p => fl2 [9, 10, 11, 12, 13, 14, 15, 20, 21, 22, 23] [(7, 8)] m0 p.2 ∧ ((p.1 = true ∧ SEx P w 64 m0 p.2) ∨ (p.1 = false ∧ bigP P 16))) := by
  have r16 := hP.1.2.2.2.2.2.2.2.2.2.2.1
  have n4 := hP.1.2.1
  unfold f_Search_expand f_Search_expand_L2
  refine ok_for (P 8) (fun k (s : Int32 × zM) => s.1 = nI k ∧ SEx P w (4 * k) m0 s.2) ⟨rfl, h⟩ (Nat.zero_le _) ?_
  rintro r ⟨x, m1⟩ - hr ⟨e, h1⟩
  have e : x = nI r := e
  subst e
  have h1 : SEx P w (4 * r) m0 m1 := h1
  have t1 : tX b P m1 := tX_fl hb ht h1.1 (by decide) r16
  unfold f_Search_expand_B2
  refine ok_le (P 8) r (fun q => ?_) (fun q => ?_) (hx := t1.1.2.2.1)
  · obtain ⟨f1, N, ow, fk, dp, pa, st, a1, a2, a3, a4, a5⟩ := h1
    refine ok_mk ⟨f1, Or.inl ⟨rfl, f1, N, ow, fk, dp, pa, st, a1, a2, a3, SIv_sk a4 (by omega) (fun c' h1 _ => sP_no (by omega)), a5⟩⟩
  · unfold f_Search_expand_L13
    refine ok_for (P 3) (fun k (s : Int32 × zM) => s.1 = nI k ∧ SEx P w (4 * r + k) m0 s.2) ⟨rfl, h1⟩ (Nat.zero_le _) ?_
    rintro i ⟨x, m2⟩ - hi ⟨e, h2⟩
    have e : x = nI i := e
    subst e
    have h2 : SEx P w (4 * r + i) m0 m2 := h2
    have t2 : tX b P m2 := tX_fl hb ht h2.1 (by decide) r16
    have nxt : ∀ m3, SEx P w (4 * r + i + 1) m0 m3 → i < P 3 → ok (f_Search_expand_J56 (nI w) b (nI r) (nI i) m3) (lp (lp (fun p : Bool × zM => fl2 [9, 10, 11, 12, 13, 14, 15, 20, 21, 22, 23] [(7, 8)] m0 p.2 ∧ ((p.1 = true ∧ SEx P w 64 m0 p.2) ∨ (p.1 = false ∧ bigP P 16))) (fun s' : Int32 × zM => r < P 8 ∧ s'.1 = nI (r + 1) ∧ SEx P w (4 * (r + 1)) m0 s'.2)) (fun s' : Int32 × zM => i < P 3 ∧ s'.1 = nI (i + 1) ∧ SEx P w (4 * r + (i + 1)) m0 s'.2)) := fun m3 h3 hi3 => ok_mk ⟨hi3, nI_1 i, h3⟩
    unfold f_Search_expand_B13
    refine ok_le (P 3) i (fun q' => ?_) (fun q' => ?_) (hx := t2.1.1)
    · obtain ⟨f1, N, ow, fk, dp, pa, st, a1, a2, a3, a4, a5⟩ := h2
      unfold f_Search_expand_J62
      exact ok_zl (ok_mk ⟨q, nI_1 r, f1, N, ow, fk, dp, pa, st, a1, a2, a3, SIv_sk a4 (by omega) (fun c' h1 h2 => sP_no (by omega)), a5⟩)
    · obtain ⟨f1, N, ow, fk, dp, pa, st, a1, a2, a3, a4, a5⟩ := h2
      have kw := (a4.2.2.1 w a2).1
      refine ok_bi (goP hb hP t2 kw a5 q q' (by decide) (by decide) (by decide) (by decide)) (fun p1 ⟨g1, g2, g3⟩ => ?_)
      have f2 : fl2 [9, 10, 11, 12, 13, 14, 15, 20, 21, 22, 23] [(7, 8)] m0 p1.2 := fl2_tr f1 (fl2_su g1 (by decide))
      have S2 := SXm_fl a3 g1 (by decide)
      have w2 : wX 16 (P 3) (dh (P 3) (ow w)) (da (P 3) (ow w)) p1.2 := wX_fl a5 g1 (by decide)
      cases em : sP P (ow w) (4 * r + i) with
      | none =>
        rw [g3 em]
        refine ok_in (by decide) (nxt _ ⟨f2, N, ow, fk, dp, pa, st, a1, a2, S2, SIv_sk a4 (by omega) (fun c' h1 h2 => by rw [show c' = 4 * r + i by omega]; exact em), w2⟩ q')
      | some y =>
        obtain ⟨y1, y2, y3⟩ := g2 y em
        rw [y1]
        refine ok_ip rfl ?_
        have fb : ∀ i, i < N → fk i < 2 ^ 63 := fun i hi => by
          obtain ⟨z1, z2⟩ := a4.2.2.1 i hi
          have := kv_lt (fo_kv z1)
          rw [z2]; omega
        refine ok_bi (meetX (pv := w + 1) (sv := 4 * r + i) (dd := dp w + 1) S2 a1 y3 y2 fb (nI_pred w).symm nI_4 (fun z => by omega) (fun _ => ⟨by omega, rfl⟩) (by omega)) (fun p2 ⟨g4, g5⟩ => ?_)
        have f3 : fl2 [9, 10, 11, 12, 13, 14, 15, 20, 21, 22, 23] [(7, 8)] m0 p2.2 := fl2_tr f2 (fl2_su g4 (by decide))
        have w3 : wX 16 (P 3) (dh (P 3) (ow w)) (da (P 3) (ow w)) p2.2 := wX_fl w2 g4 (by decide)
        rcases g5 with ⟨b1, ⟨k, hk, b2⟩, b3⟩ | ⟨b1, b2, b3, b4⟩ | ⟨b1, b2, b3⟩
        · rw [b1]
          exact ok_ip rfl (nxt _ ⟨f3, N, ow, fk, dp, pa, st, a1, a2, b3, SIv_old a4 em hk b2, w3⟩ q')
        · rw [b1]
          refine ok_ip rfl (nxt _ ⟨f3, N + 1, _, _, _, _, _, by omega, by omega, b4, SIv_new hP a4 a2 (by omega) em b3, ?_⟩ q')
          rw [upn_n (show w ≠ N by omega)]
          exact w3
        · rw [b1]
          subst b2
          refine ok_in (by decide) (ok_mk ⟨f3, Or.inr ⟨rfl, bigP_of hP a4 a2 (by omega) em b3⟩⟩)
/-- the search at its end -/
def SF (P : Nat → Nat) (N : Nat) (ow fk dp pa st : Nat → Nat) (m : zM) : Prop := 0 < N ∧ N ≤ 600 ∧ SXm N ow fk dp pa st m ∧ SIv P N N 0 ow fk dp pa st
theorem beginX {P : Nat → Nat} {b w : Nat} {m : zM} (hb : tbv b) (hP : tV P) (ht : tX b P m) (hz : zlen gX (w + 1) = 4) (hw : w + 1 < 66) : ok (f_World_begin w b m) (fun p => fl2 [w, w + 1] [] m p ∧ wX w (P 3) (dh (P 3) (wx0 P)) (da (P 3) (wx0 P)) p) := by
  have hb66 : 66 ≤ b := by rcases hb with e | e <;> omega
  have n4 := hP.1.2.1
  obtain ⟨d1, d2⟩ := dk_ky (h := if P 1 = 0 then 0 else 1) (wx0_w hP).2.2.2
  have go : ∀ t1 : Int32, t1 = nI (if P 1 = 0 then 0 else 1) - 1 → ok (f_World_begin_J15 w b w t1 m) (fun p => fl2 [w, w + 1] [] m p ∧ wX w (P 3) (dh (P 3) (wx0 P)) (da (P 3) (wx0 P)) p) := by
    intro t1 h1
    unfold f_World_begin_J15
    refine ok_lt (ok_lt ?_)
    refine ok_bi (fillX (by rw [hz]; decide)) (fun p ⟨g1, g2⟩ => ok_mk ⟨fl2_tr (fl2_I (inS_c (by simp))) (fl2_tr (fl2_I (inS_c (by simp))) (fl2_su (F := []) (S := [w + 1]) g2 (by simp [sbs]))), ?_, ?_, fun i hi => ?_⟩)
    · rw [fl2_i g2 (by simp [inS]), rd_I0 (by omega), rd_I1, show dh (P 3) (wx0 P) = _ from d1]; exact h1
    · rw [fl2_i g2 (by simp [inS]), rd_I1, rd_I0 (by omega)]; exact ht.1.1
    · rw [g1 i (by rw [hz]; omega), show da (P 3) (wx0 P) i = 0 from d2 i hi]; decide
  unfold f_World_begin
  refine ok_ix (show (1 : Int32) = nI 1 from rfl) (by decide) (by decide) ?_
  have b6 : P 1 ≤ 6 := hP.1.2.2.2.2.1
  refine ok_le (P 1) 0 (fun q => go _ ?_) (fun q => go _ ?_) (hx := ht.2.1 1 (by decide))
  · rw [if_pos (by omega)]; decide
  · rw [if_neg (by omega)]; decide
theorem exploreX {P : Nat → Nat} {b : Nat} {m : zM} (hb : tbv b) (hP : tV P) (ht : tX b P m) : ok (f_Search_explore b m) (fun p => fl2 [9, 10, 11, 12, 13, 14, 15, 16, 17, 20, 21, 22, 23] [(7, 8)] m p.2 ∧ ((p.1 = true ∧ ∃ (N : Nat) (ow fk dp pa st : Nat → Nat), SF P N ow fk dp pa st p.2) ∨ (p.1 = false ∧ bigP P 16))) := by
  have r16 := hP.1.2.2.2.2.2.2.2.2.2.2.1
  unfold f_Search_explore f_Index_clear
  refine ok_bi (ok_bi (fillX (c := 8 + 2) (x := -1) (m := m) (by decide)) (fun p1 h => ok_mk h)) (fun p1 ⟨c1, c2⟩ => ok_lt ?_)
  have t1 : tX b P (sI p1 7 8 0) := tX_fl hb ht (fl2_tr (fl2_su (S' := [8 + 2]) (F' := [(7, 8)]) c2 (by decide)) (fl2_I (inS_f (by simp)))) (by decide) r16
  refine ok_bi (beginX hb hP t1 (by decide) (by decide)) (fun p3 ⟨b1, b2⟩ => ?_)
  have f3 : fl2 [9, 10, 11, 12, 13, 14, 15, 16, 17, 20, 21, 22, 23] [(7, 8)] m p3 := fl2_tr (fl2_su c2 (by decide)) (fl2_tr (fl2_I (inS_f (by simp))) (fl2_su b1 (by decide)))
  have S0 : SXm 0 (fun _ => 0) (fun _ => 0) (fun _ => 0) (fun _ => 0) (fun _ => 0) p3 := by
    refine SXm_fl (m := sI p1 7 8 0) ⟨rd_I1 _ _ _ _, fun i hi => absurd hi (Nat.not_lt_zero _), ?_, fun s i _ hi => absurd hi (Nat.not_lt_zero _)⟩ b1 (by decide)
    have e10 : (sI p1 7 8 0).1 10 = p1.1 10 := rd_Ic (by decide)
    rw [e10]
    refine ⟨fun i hi => absurd hi (Nat.not_lt_zero _), fun s hs => Or.inl (c1 s hs), ?_⟩
    rw [cn_cg (q := fun _ => false) (fun j hj => decide_eq_false (fun z => z (c1 j hj))), cn_non]
    exact Nat.le_refl _
  refine ok_bi (meetX (pv := 0) (sv := 0) (dd := 0) S0 (by omega) b2 (wx0_kv hP) (fun i hi => absurd hi (Nat.not_lt_zero _)) no_m1 rfl (fun _ => rfl) (fun z => by omega) (by omega)) (fun p4 ⟨g4, g5⟩ => ?_)
  have f4 : fl2 [9, 10, 11, 12, 13, 14, 15, 16, 17, 20, 21, 22, 23] [(7, 8)] m p4.2 := fl2_tr f3 (fl2_su g4 (by decide))
  rcases g5 with ⟨_, ⟨k, hk, _⟩, _⟩ | ⟨_, _, _, S4⟩ | ⟨_, b2, _⟩
  · omega
  · unfold f_Search_explore_L29
    refine ok_lop (ι := Nat) (fun w (s : Int32 × zM) => w ≤ 600 ∧ s.1 = nI w ∧ fl2 [9, 10, 11, 12, 13, 14, 15, 16, 17, 20, 21, 22, 23] [(7, 8)] m s.2 ∧ ∃ (N : Nat) (ow fk dp pa st : Nat → Nat), 0 < N ∧ N ≤ 600 ∧ w ≤ N ∧ SXm N ow fk dp pa st s.2 ∧ SIv P N w 0 ow fk dp pa st) (fun w => 600 - w) ?_ 0 _ ⟨by omega, rfl, f4, 1, _, _, _, _, _, by omega, by omega, by omega, S4, SIv_0 hP upn_s upn_s upn_s upn_s⟩ (by omega)
    rintro w ⟨x, m1⟩ ⟨hw, e, f1, N, ow, fk, dp, pa, st, a0, a1, a2, a3, a4⟩
    have e : x = nI w := e
    subst e
    have f1 : fl2 [9, 10, 11, 12, 13, 14, 15, 16, 17, 20, 21, 22, 23] [(7, 8)] m m1 := f1
    have a3 : SXm N ow fk dp pa st m1 := a3
    have t1 : tX b P m1 := tX_fl hb ht f1 (by decide) r16
    have fin : w = N → ok (some (Sum.inl (true, m1))) (lp (fun p : Bool × zM => fl2 [9, 10, 11, 12, 13, 14, 15, 16, 17, 20, 21, 22, 23] [(7, 8)] m p.2 ∧ ((p.1 = true ∧ ∃ (N : Nat) (ow fk dp pa st : Nat → Nat), SF P N ow fk dp pa st p.2) ∨ (p.1 = false ∧ bigP P 16))) (fun s' : Int32 × zM => ∃ i', 600 - i' < 600 - w ∧ i' ≤ 600 ∧ s'.1 = nI i' ∧ fl2 [9, 10, 11, 12, 13, 14, 15, 16, 17, 20, 21, 22, 23] [(7, 8)] m s'.2 ∧ ∃ (N : Nat) (ow fk dp pa st : Nat → Nat), 0 < N ∧ N ≤ 600 ∧ i' ≤ N ∧ SXm N ow fk dp pa st s'.2 ∧ SIv P N i' 0 ow fk dp pa st)) := by
      intro z
      subst z
      exact ok_mk ⟨f1, Or.inl ⟨rfl, w, ow, fk, dp, pa, st, a0, a1, a3, a4⟩⟩
    unfold f_Search_explore_B29
    refine ok_le 600 w (fun q => fin (by omega)) (fun q => ?_)
    refine ok_le N w (fun q => fin (by omega)) (fun q' => ?_) (hx := a3.1)
    refine ok_ix rfl q (by decide) ?_
    have kw := (a4.2.2.1 w q').1
    rw [(a3.2.1 w q').1, t1.1.1]
    have ld := loadX (w := 16) (m := m1) (kv_w kw)
    rw [ky_d] at ld
    refine ok_bi ld (fun p6 ⟨l1, l2⟩ => ?_)
    have f6 : fl2 [9, 10, 11, 12, 13, 14, 15, 16, 17, 20, 21, 22, 23] [(7, 8)] m p6 := fl2_tr f1 (fl2_su l1 (by decide))
    have t6 : tX b P p6 := tX_fl hb ht f6 (by decide) r16
    refine ok_bi (expandX hb hP t6 ⟨fl2_rf, N, ow, fk, dp, pa, st, a1, q', SXm_fl a3 l1 (by decide), a4, l2⟩) (fun p7 ⟨g6, g7⟩ => ?_)
    have f7 : fl2 [9, 10, 11, 12, 13, 14, 15, 16, 17, 20, 21, 22, 23] [(7, 8)] m p7.2 := fl2_tr f6 (fl2_su g6 (by decide))
    rcases g7 with ⟨b1, _, N', ow', fk', dp', pa', st', c1, c2, c3, c4, _⟩ | ⟨b1, b2⟩
    · rw [b1]
      exact ok_ip rfl (ok_mk ⟨w + 1, by omega, by omega, nI_1 w, f7, N', ow', fk', dp', pa', st', by omega, c1, by omega, c3, SIv_nx hP c4 c2⟩)
    · rw [b1]
      exact ok_in (by decide) (ok_mk ⟨f7, Or.inr ⟨rfl, b2⟩⟩)
  · omega
