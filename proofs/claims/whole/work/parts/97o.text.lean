/-- an agent, a world as a text -/
def mgL (P : Nat → Nat) (v : Nat) : List Nat := nmL (P (10 + 6 * 2 + (v - 1)))
def tlL (P : Nat → Nat) (c : Nat) : List Nat := if o3 c = 0 then [] else [33] ++ mgL P (o3 c)
def inL (P : Nat → Nat) (c : Nat) : List Nat := if o1 c = 0 then [] else [60] ++ mgL P (o1 c) ++ (if o2 c = 0 then [] else [44] ++ mgL P (o2 c)) ++ [62]
def agL (P : Nat → Nat) (c : Nat) : List Nat := [32] ++ nmL (P (10 + 6 * 0 + oS c)) ++ inL P c ++ tlL P c
def hoL (P : Nat → Nat) (h : Nat) : List Nat := if h = 0 then [45] else nmL (P (10 + 6 * 1 + (h - 1)))
def wdL (P : Nat → Nat) (x : Nat) : Nat → List Nat
  | 0 => hoL P (dh (P 3) x)
  | k + 1 => wdL P x k ++ agL P (da (P 3) x k)
theorem mgL_6 (P : Nat → Nat) (v : Nat) : (mgL P v).length ≤ 6 := nmL_6 _
theorem tlL_7 (P : Nat → Nat) (c : Nat) : (tlL P c).length ≤ 7 := by
  have := mgL_6 P (o3 c)
  unfold tlL
  split
  · exact Nat.zero_le _
  · rw [List.length_append]
    show 1 + (mgL P (o3 c)).length ≤ 7
    omega
theorem inL_15 (P : Nat → Nat) (c : Nat) : (inL P c).length ≤ 15 := by
  have h1 := mgL_6 P (o1 c)
  have h2 := mgL_6 P (o2 c)
  unfold inL
  split
  · exact Nat.zero_le _
  · split
    · simp only [List.length_append, List.length_cons, List.length_nil]; omega
    · simp only [List.length_append, List.length_cons, List.length_nil]; omega
theorem agL_29 (P : Nat → Nat) (c : Nat) : (agL P c).length ≤ 29 := by
  have h1 := inL_15 P c
  have h2 := tlL_7 P c
  have h3 := nmL_6 (P (10 + 6 * 0 + oS c))
  unfold agL
  simp only [List.length_append, List.length_cons, List.length_nil]
  omega
theorem wdL_n (P : Nat → Nat) (x k : Nat) : (wdL P x k).length ≤ 6 + 29 * k := by
  induction k with
  | zero =>
    show (hoL P (dh (P 3) x)).length ≤ 6
    unfold hoL
    split
    · show 1 ≤ 6; omega
    · exact nmL_6 _
  | succ k ih =>
    show (wdL P x k ++ agL P (da (P 3) x k)).length ≤ _
    have := agL_29 P (da (P 3) x k)
    rw [List.length_append]
    omega
/-- names of a table are of letters -/
theorem ltO_t {P : Nat → Nat} {k j : Nat} (hP : tV P) (hG : tGd P) (hk : k < 3) (hj : j < P k) : ltO (P (10 + 6 * k + j)) := by
  refine ⟨(hP.2.2.2 k j hk ?_).1, hG.2 k j hk hj⟩
  obtain ⟨a1, a2, a3, a4, a5, a6, a7⟩ := hP.1
  rcases (show k = 0 ∨ k = 1 ∨ k = 2 by omega) with z | z | z <;> subst z <;> omega
/-- the class writes into v; what lies elsewhere is as in m0 -/
def WrX (v : Nat) (m0 : zM) (l : List Nat) (m : zM) : Prop := fl2 [v + 1] [(v, 1)] m0 m ∧ TxX v l m
theorem wrC {v c : Nat} {m0 m : zM} {l : List Nat} {x : Int32} (h : WrX v m0 l m) (hn : l.length < 1600) (hx : x = nI c) (hc : c < 256) : ok (f_Bytes_add v x m) (WrX v m0 (l ++ [c])) := ok_mo (txA h.2 hn hx hc) (fun _ ⟨f1, h1⟩ => ⟨fl2_tr h.1 f1, h1⟩)
theorem tnmX {P : Nat → Nat} {b k j : Nat} {m : zM} (hP : tV P) (ht : tX b P m) (hk : k < 3) (hj : j < P k) : f_Table_name b (nI k) (nI j) m = some (nI (nm5 (P (10 + 6 * k + j)))) := by
  obtain ⟨a1, a2, a3, a4, a5, a6, a7⟩ := hP.1
  have pk : P k ≤ 6 := by rcases (show k = 0 ∨ k = 1 ∨ k = 2 by omega) with z | z | z <;> subst z <;> omega
  refine ok_eq.mp ?_
  unfold f_Table_name
  refine ok_in (nI_pos (by omega)) (ok_ix rfl hk (by decide) (ok_in ?_ (ok_ix (i := 6 * k + j) ?_ (by omega) (by decide) (ok_mk ?_))))
  · rw [ht.2.1 k hk]; exact nI_ge hj (by omega)
  · rw [show (6 : Int32) = nI 6 from rfl, pk_mul, nI_add, Nat.mul_comm]
  · exact ht.2.2.2.2 k j hk hj
theorem wrN {P : Nat → Nat} {v b k j : Nat} {m0 m : zM} {l : List Nat} {kk x : Int32} {K : zM → Prop} {f : zM → Option zM} (hP : tV P) (hG : tGd P) (hv : v = 3 ∨ v = 5) (r0 : Rfs b m0) (ht : tX b P m0) (h : WrX v m0 l m) (hk : k < 3) (hj : j < P k) (ek : kk = nI k) (ex : x = nI j) (hn : l.length + 6 < 1600) (c : ∀ p, WrX v m0 (l ++ nmL (P (10 + 6 * k + j))) p → ok (f p) K) : ok ((tb li_Table m 0).bind fun t => (f_Table_name t kk x m).bind fun r => (f_Bytes_addName v r m).bind f) K := by
  have ho : offT [v + 1] [(v, 1)] = true := by rcases hv with z | z <;> subst z <;> decide
  have t1 := tX_fl r0.1 ht h.1 ho hP.1.2.2.2.2.2.2.2.2.2.2.1
  rw [ek, ex]
  refine ok_eb (tb_ok (b := b) (by rw [h.1.2]; exact r0.2.1) r0.1) (ok_eb (tnmX hP t1 hk hj) (ok_bi (nmX (ltO_t hP hG hk hj) h.2 hn) (fun p ⟨f1, h1⟩ => c p ⟨fl2_tr h.1 f1, h1⟩)))
theorem wagX {P : Nat → Nat} {v b c : Nat} {m0 m : zM} {l : List Nat} (hP : tV P) (hG : tGd P) (hv : v = 3 ∨ v = 5) (r0 : Rfs b m0) (ht : tX b P m0) (h : WrX v m0 l m) (hc : c < 2058) (hg : gag P c) (hn : l.length + 30 < 1600) : ok (f_PA_writeAgent (nI c) v m) (WrX v m0 (l ++ agL P c)) := by
  have q1 := o1_lt c
  have q2 := o2_lt c
  have q3 := o3_lt c
  have tl : ∀ (l' : List Nat) (m' : zM), WrX v m0 l' m' → l'.length + 7 < 1600 → ok (f_PA_writeAgent_J93 (nI c) v m') (WrX v m0 (l' ++ tlL P c)) := by
    intro l' m' h' hl
    unfold f_PA_writeAgent_J93
    rw [hd3 hc]
    refine ok_mm (o3 c) (fun q => ok_mk ?_) (fun q => ?_)
    · unfold tlL; rw [if_pos q, List.append_nil]; exact h'
    · refine ok_bi (wrC (c := 33) h' (by omega) rfl (by decide)) (fun p hp => ?_)
      refine wrN hP hG hv r0 ht hp (k := 2) (j := o3 c - 1) (by decide) (by have := hg.2.2.2; omega) rfl (nI_pr q) (by rw [List.length_append]; show l'.length + 1 + 6 < 1600; omega) (fun p' hp' => ok_mk ?_)
      unfold tlL mgL
      rw [if_neg (by omega), ← List.append_assoc]; exact hp'
  have tl2 : ∀ (l' : List Nat) (m' : zM), WrX v m0 l' m' → l'.length + 8 < 1600 → ok (f_PA_writeAgent_J87 (nI c) v m') (WrX v m0 (l' ++ [62] ++ tlL P c)) := by
    intro l' m' h' hl
    unfold f_PA_writeAgent_J87
    refine ok_bi (wrC (c := 62) h' (by omega) rfl (by decide)) (fun p hp => tl _ p hp (by rw [List.length_append]; show l'.length + 1 + 7 < 1600; omega))
  unfold f_PA_writeAgent
  rw [hd0 hc, hd1 hc, hd2 hc]
  have l0 := nmL_6 (P (10 + 6 * 0 + oS c))
  refine ok_bi (wrC (c := 32) h (by omega) rfl (by decide)) (fun p hp => ?_)
  refine wrN hP hG hv r0 ht hp (k := 0) (j := oS c) (by decide) hg.1 rfl rfl (by rw [List.length_append]; show l.length + 1 + 6 < 1600; omega) (fun p1 h1 => ?_)
  have L1 : (l ++ [32] ++ nmL (P (10 + 6 * 0 + oS c))).length ≤ l.length + 7 := by simp only [List.length_append, List.length_cons, List.length_nil]; omega
  refine ok_mm (o1 c) (fun q => ?_) (fun q => ?_)
  · refine ok_mo (tl _ p1 h1 (by omega)) (fun r hr => ?_)
    unfold agL inL
    rw [if_pos q]
    simpa only [List.append_assoc, List.nil_append, List.append_nil] using hr
  · refine ok_bi (wrC (c := 60) h1 (by omega) rfl (by decide)) (fun p2 h2 => ?_)
    have L2 : (l ++ [32] ++ nmL (P (10 + 6 * 0 + oS c)) ++ [60]).length ≤ l.length + 8 := by rw [List.length_append]; show _ + 1 ≤ _; omega
    refine wrN hP hG hv r0 ht h2 (k := 2) (j := o1 c - 1) (by decide) (by have := hg.2.1; omega) rfl (nI_pr q) (by omega) (fun p3 h3 => ?_)
    have l3 := mgL_6 P (o1 c)
    have L3 : (l ++ [32] ++ nmL (P (10 + 6 * 0 + oS c)) ++ [60] ++ nmL (P (10 + 6 * 2 + (o1 c - 1)))).length ≤ l.length + 14 := by
      rw [List.length_append]
      unfold mgL at l3
      omega
    refine ok_mm (o2 c) (fun q' => ?_) (fun q' => ?_)
    · refine ok_mo (tl2 _ p3 h3 (by omega)) (fun r hr => ?_)
      unfold agL inL mgL
      rw [if_neg (by omega), if_pos q']
      simpa only [List.append_assoc, List.nil_append, List.append_nil] using hr
    · refine ok_bi (wrC (c := 44) h3 (by omega) rfl (by decide)) (fun p4 h4 => ?_)
      have L4 : (l ++ [32] ++ nmL (P (10 + 6 * 0 + oS c)) ++ [60] ++ nmL (P (10 + 6 * 2 + (o1 c - 1))) ++ [44]).length ≤ l.length + 15 := by rw [List.length_append]; show _ + 1 ≤ _; omega
      refine wrN hP hG hv r0 ht h4 (k := 2) (j := o2 c - 1) (by decide) (by have := hg.2.2.1; omega) rfl (nI_pr q') (by omega) (fun p5 h5 => ?_)
      have l5 := mgL_6 P (o2 c)
      refine ok_mo (tl2 _ p5 h5 ?_) (fun r hr => ?_)
      · rw [List.length_append]
        unfold mgL at l5
        omega
      · unfold agL inL mgL
        rw [if_neg (by omega), if_neg (by omega)]
        simpa only [List.append_assoc, List.nil_append, List.append_nil] using hr
/-- the reference writes -/
def WrM (m0 : zM) (l : List Nat) (m : zM) : Prop := fl2 [56] [(0, 83)] m0 m ∧ TxM l m
theorem wrD {c : Nat} {m0 m : zM} {l : List Nat} {x : Int32} (h : WrM m0 l m) (hn : l.length < 130) (hx : x = nI c) : ok (f_MO_writes x m) (WrM m0 (l ++ [c])) := ok_mo (txW h.2 hn hx) (fun _ ⟨f1, h1⟩ => ⟨fl2_tr h.1 f1, h1⟩)
theorem wrO {P : Nat → Nat} {k j : Nat} {m0 m : zM} {l : List Nat} {kk x : Int32} (hP : tV P) (hG : tGd P) (ht : tM 23 P m0) (h : WrM m0 l m) (hk : k < 3) (hj : j < P k) (ek : kk = nI k) (ex : x = nI j) (hn : l.length + 6 ≤ 130) : ok (f_MO_writesName kk x m) (WrM m0 (l ++ nmL (P (10 + 6 * k + j)))) := by
  have p6 : P k ≤ 6 := by
    obtain ⟨a1, a2, a3, a4, a5, a6, a7⟩ := hP.1
    rcases (show k = 0 ∨ k = 1 ∨ k = 2 by omega) with z | z | z <;> subst z <;> omega
  exact ok_mo (nmM (tM_fl ht h.1 (by decide)) hk (by omega) (ltO_t hP hG hk hj) h.2 hn ek ex) (fun _ ⟨f1, h1⟩ => ⟨fl2_tr h.1 f1, h1⟩)
theorem wagM {P : Nat → Nat} {c : Nat} {m0 m : zM} {l : List Nat} (hP : tV P) (hG : tGd P) (ht : tM 23 P m0) (h : WrM m0 l m) (hc : c < 2058) (hg : gag P c) (hn : l.length + 29 ≤ 130) : ok (f_MO_writesAgent (nI (mOf c)) m) (WrM m0 (l ++ agL P c)) := by
  have q1 := o1_lt c
  have q2 := o2_lt c
  have q3 := o3_lt c
  obtain ⟨s1, s2, s3, s4, _⟩ := ms_S c hc
  have tl : ∀ (l' : List Nat) (m' : zM), WrM m0 l' m' → l'.length + 7 ≤ 130 → ok (f_MO_writesAgent_J69 (nI (mOf c)) m') (WrM m0 (l' ++ tlL P c)) := by
    intro l' m' h' hl
    unfold f_MO_writesAgent_J69
    rw [s4]
    refine ok_ee (o3 c) 0 (fun q => ok_mk ?_) (fun q => ?_)
    · unfold tlL; rw [if_pos q, List.append_nil]; exact h'
    · refine ok_bi (wrD (c := 33) h' (by omega) rfl) (fun p hp => ?_)
      refine ok_bi (wrO hP hG ht hp (k := 2) (j := o3 c - 1) (by decide) (by have := hg.2.2.2; omega) rfl (nI_pr (by omega)) (by rw [List.length_append]; show l'.length + 1 + 6 ≤ 130; omega)) (fun p' hp' => ok_mk ?_)
      unfold tlL mgL
      rw [if_neg (by omega), ← List.append_assoc]; exact hp'
  have tl2 : ∀ (l' : List Nat) (m' : zM), WrM m0 l' m' → l'.length + 8 ≤ 130 → ok (f_MO_writesAgent_J63 (nI (mOf c)) m') (WrM m0 (l' ++ [62] ++ tlL P c)) := by
    intro l' m' h' hl
    unfold f_MO_writesAgent_J63
    refine ok_bi (wrD (c := 62) h' (by omega) rfl) (fun p hp => tl _ p hp (by rw [List.length_append]; show l'.length + 1 + 7 ≤ 130; omega))
  unfold f_MO_writesAgent
  rw [s1, s2, s3]
  have l0 := nmL_6 (P (10 + 6 * 0 + oS c))
  refine ok_bi (wrD (c := 32) h (by omega) rfl) (fun p hp => ?_)
  refine ok_bi (wrO hP hG ht hp (k := 0) (j := oS c) (by decide) hg.1 rfl rfl (by rw [List.length_append]; show l.length + 1 + 6 ≤ 130; omega)) (fun p1 h1 => ?_)
  have L1 : (l ++ [32] ++ nmL (P (10 + 6 * 0 + oS c))).length ≤ l.length + 7 := by simp only [List.length_append, List.length_cons, List.length_nil]; omega
  refine ok_le (o1 c) 0 (fun q => ?_) (fun q => ?_)
  · refine ok_mo (tl _ p1 h1 (by omega)) (fun r hr => ?_)
    unfold agL inL
    rw [if_pos (by omega)]
    simpa only [List.append_assoc, List.nil_append, List.append_nil] using hr
  · refine ok_bi (wrD (c := 60) h1 (by omega) rfl) (fun p2 h2 => ?_)
    have L2 : (l ++ [32] ++ nmL (P (10 + 6 * 0 + oS c)) ++ [60]).length ≤ l.length + 8 := by rw [List.length_append]; show _ + 1 ≤ _; omega
    refine ok_bi (wrO hP hG ht h2 (k := 2) (j := o1 c - 1) (by decide) (by have := hg.2.1; omega) rfl (nI_pr q) (by omega)) (fun p3 h3 => ?_)
    have l3 := mgL_6 P (o1 c)
    have L3 : (l ++ [32] ++ nmL (P (10 + 6 * 0 + oS c)) ++ [60] ++ nmL (P (10 + 6 * 2 + (o1 c - 1)))).length ≤ l.length + 14 := by
      rw [List.length_append]
      unfold mgL at l3
      omega
    refine ok_le (o2 c) 0 (fun q' => ?_) (fun q' => ?_)
    · refine ok_mo (tl2 _ p3 h3 (by omega)) (fun r hr => ?_)
      unfold agL inL mgL
      rw [if_neg (by omega), if_pos (by omega)]
      simpa only [List.append_assoc, List.nil_append, List.append_nil] using hr
    · refine ok_bi (wrD (c := 44) h3 (by omega) rfl) (fun p4 h4 => ?_)
      have L4 : (l ++ [32] ++ nmL (P (10 + 6 * 0 + oS c)) ++ [60] ++ nmL (P (10 + 6 * 2 + (o1 c - 1))) ++ [44]).length ≤ l.length + 15 := by rw [List.length_append]; show _ + 1 ≤ _; omega
      refine ok_bi (wrO hP hG ht h4 (k := 2) (j := o2 c - 1) (by decide) (by have := hg.2.2.1; omega) rfl (nI_pr q') (by omega)) (fun p5 h5 => ?_)
      have l5 := mgL_6 P (o2 c)
      refine ok_mo (tl2 _ p5 h5 ?_) (fun r hr => ?_)
      · rw [List.length_append]
        unfold mgL at l5
        omega
      · unfold agL inL mgL
        rw [if_neg (by omega), if_neg (by omega)]
        simpa only [List.append_assoc, List.nil_append, List.append_nil] using hr
