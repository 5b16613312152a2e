
def zuI (h : zH) (a i : Nat) (x : Int32) : zH := (h.1, (fun k j => if k = a ∧ j = i then x else h.2.1 k j), h.2.2)
def zuJ (h : zH) (a i : Nat) (x : Int64) : zH := (h.1, h.2.1, (fun k j => if k = a ∧ j = i then x else h.2.2.1 k j), h.2.2.2)
def zuR (h : zH) (a i : Nat) (x : Nat) : zH := (h.1, h.2.1, h.2.2.1, (fun k j => if k = a ∧ j = i then some x else h.2.2.2 k j))
def zadd (h : zH) (q : Nat ⊕ (Nat × Nat)) : zH := (h.1 ++ [q], (fun k j => if k = h.1.length then 0 else h.2.1 k j), (fun k j => if k = h.1.length then 0 else h.2.2.1 k j), (fun k j => if k = h.1.length then none else h.2.2.2 k j))
theorem zfs_at {kds : List Nat} {ad : Nat → Nat} {h : zH} {a i : Nat} (hi : i < kds.length) : (zfs kds ad h a)[i]? = some (zfv ad h a i (kds.getD i 9)) := by
  simp [zfs, List.getElem?_map, List.getElem?_range hi]
theorem zws_len (cA : Nat → ClassId) (ad : Nat → Nat) (h : zH) : (zws cA ad h).length = h.1.length := by simp [zws]
theorem zel_off {cA : Nat → ClassId} {ad : Nat → Nat} {h h' : zH} {k : Nat} (h1 : h'.2.1 k = h.2.1 k) (h2 : h'.2.2.1 k = h.2.2.1 k) (h3 : h'.2.2.2 k = h.2.2.2 k) (q : Nat ⊕ (Nat × Nat)) : zel cA ad h' k q = zel cA ad h k q := by
  cases q with
  | inl ci =>
    simp only [zel, zfs]
    congr 2
    apply List.map_congr_left
    intro i _
    simp only [zfv, h1, h2, h3]
  | inr q => simp only [zel, zac, h1, h2, h3]
theorem zws_set {cA : Nat → ClassId} {ad : Nat → Nat} {h h' : zH} {a : Nat} {q : Nat ⊕ (Nat × Nat)} {e : va_E} (hs : h'.1 = h.1) (ha : h.1[a]? = some q) (he : zel cA ad h' a q = e) (h1 : ∀ k, k ≠ a → h'.2.1 k = h.2.1 k) (h2 : ∀ k, k ≠ a → h'.2.2.1 k = h.2.2.1 k) (h3 : ∀ k, k ≠ a → h'.2.2.2 k = h.2.2.2 k) : (zws cA ad h).set a (ad a, e) = zws cA ad h' := by
  have hlt : a < (zws cA ad h).length := by rw [zws_len]; exact (List.getElem?_eq_some_iff.mp ha).1
  apply List.ext_getElem?
  intro j
  by_cases hj : j = a
  · subst hj
    rw [List.getElem?_set_self hlt, zws_at (h := h') (by rw [hs]; exact ha), he]
  · rw [List.getElem?_set_ne (Ne.symm hj)]
    cases hq : h.1[j]? with
    | none =>
      have l1 : h.1.length ≤ j := List.getElem?_eq_none_iff.mp hq
      rw [List.getElem?_eq_none_iff.mpr (by rw [zws_len]; exact l1), List.getElem?_eq_none_iff.mpr (by rw [zws_len, hs]; exact l1)]
    | some q' => rw [zws_at hq, zws_at (h := h') (by rw [hs]; exact hq), zel_off (h1 j hj) (h2 j hj) (h3 j hj)]
theorem zfs_set {kds : List Nat} {ad : Nat → Nat} {h h' : zH} {a i : Nat} {v : Value} (hi : i < kds.length) (hv : zfv ad h' a i (kds.getD i 9) = v) (ho : ∀ j, j ≠ i → zfv ad h' a j (kds.getD j 9) = zfv ad h a j (kds.getD j 9)) : zfs kds ad h' a = (zfs kds ad h a).set i v := by
  apply List.ext_getElem?
  intro j
  by_cases hj : j = i
  · subst hj
    rw [List.getElem?_set_self (by simp [zfs]; exact hi), zfs_at hi, hv]
  · rw [List.getElem?_set_ne (Ne.symm hj)]
    by_cases hl : j < kds.length
    · rw [zfs_at hl, zfs_at hl, ho j hj]
    · rw [List.getElem?_eq_none_iff.mpr (by simp [zfs]; omega), List.getElem?_eq_none_iff.mpr (by simp [zfs]; omega)]
theorem zws_putI {cA : Nat → ClassId} {ad : Nat → Nat} {h : zH} {a i ci : Nat} {x : Int32} (ha : h.1[a]? = some (.inl ci)) (hi : i < (zkd ci).length) (hk : (zkd ci).getD i 9 = 0) : (zws cA ad h).set a (ad a, .inr (ci, (zfs (zkd ci) ad h a).set i (.int x))) = zws cA ad (zuI h a i x) := by
  refine zws_set rfl ha ?_ (fun k hk => ?_) (fun _ _ => rfl) (fun _ _ => rfl)
  · show (Sum.inr (ci, zfs (zkd ci) ad (zuI h a i x) a) : va_E) = _
    rw [zfs_set hi (v := .int x) (h := h) (by rw [hk]; simp [zfv, zuI]) (fun j hj => by simp [zfv, zuI, hj])]
  · funext j; simp [zuI, hk]
theorem zws_putJ {cA : Nat → ClassId} {ad : Nat → Nat} {h : zH} {a i ci : Nat} {x : Int64} (ha : h.1[a]? = some (.inl ci)) (hi : i < (zkd ci).length) (hk : (zkd ci).getD i 9 = 1) : (zws cA ad h).set a (ad a, .inr (ci, (zfs (zkd ci) ad h a).set i (.long x))) = zws cA ad (zuJ h a i x) := by
  refine zws_set rfl ha ?_ (fun _ _ => rfl) (fun k hk => ?_) (fun _ _ => rfl)
  · show (Sum.inr (ci, zfs (zkd ci) ad (zuJ h a i x) a) : va_E) = _
    rw [zfs_set hi (v := .long x) (h := h) (by rw [hk]; simp [zfv, zuJ]) (fun j hj => by simp [zfv, zuJ, hj])]
  · funext j; simp [zuJ, hk]
theorem zws_putR {cA : Nat → ClassId} {ad : Nat → Nat} {h : zH} {a i ci : Nat} {x : Nat} (ha : h.1[a]? = some (.inl ci)) (hi : i < (zkd ci).length) (hk : (zkd ci).getD i 9 = 2) : (zws cA ad h).set a (ad a, .inr (ci, (zfs (zkd ci) ad h a).set i (.ref (ad x)))) = zws cA ad (zuR h a i x) := by
  refine zws_set rfl ha ?_ (fun _ _ => rfl) (fun _ _ => rfl) (fun k hk => ?_)
  · show (Sum.inr (ci, zfs (zkd ci) ad (zuR h a i x) a) : va_E) = _
    rw [zfs_set hi (v := .ref (ad x)) (h := h) (by rw [hk]; simp [zfv, zuR, va_rf]) (fun j hj => by simp [zfv, zuR, hj])]
  · funext j; simp [zuR, hk]
theorem zws_astI {cA : Nat → ClassId} {ad : Nat → Nat} {h : zH} {a i t n : Nat} {x : Int32} (ha : h.1[a]? = some (.inr (t, n))) (ht : t < 3) : (zws cA ad h).set a (ad a, .inl (cA t, n, .inl (upd (h.2.1 a) i x))) = zws cA ad (zuI h a i x) := by
  refine zws_set rfl ha ?_ (fun k hk => ?_) (fun _ _ => rfl) (fun _ _ => rfl)
  · have e : (zuI h a i x).2.1 a = upd (h.2.1 a) i x := by funext j; simp [zuI, upd]
    match t, ht with
    | 0, _ => simp only [zel, zac, e]
    | 1, _ => simp only [zel, zac, e]
    | 2, _ => simp only [zel, zac, e]
  · funext j; simp [zuI, hk]
theorem zws_astJ {cA : Nat → ClassId} {ad : Nat → Nat} {h : zH} {a i n : Nat} {x : Int64} (ha : h.1[a]? = some (.inr (3, n))) : (zws cA ad h).set a (ad a, .inl (cA 3, n, .inr (.inl (vp_updL (h.2.2.1 a) i x)))) = zws cA ad (zuJ h a i x) := by
  refine zws_set rfl ha ?_ (fun _ _ => rfl) (fun k hk => ?_) (fun _ _ => rfl)
  · have e : (zuJ h a i x).2.2.1 a = vp_updL (h.2.2.1 a) i x := by funext j; simp [zuJ, vp_updL]
    simp only [zel, zac, e]
  · funext j; simp [zuJ, hk]
theorem zws_astR {cA : Nat → ClassId} {ad : Nat → Nat} {h : zH} {a i n x : Nat} (ha : h.1[a]? = some (.inr (4, n))) : (zws cA ad h).set a (ad a, .inl (cA 4, n, .inr (.inr (.inr (.inr (va_up (fun j => (h.2.2.2 a j).map ad) i (some (ad x)))))))) = zws cA ad (zuR h a i x) := by
  refine zws_set rfl ha ?_ (fun _ _ => rfl) (fun _ _ => rfl) (fun k hk => ?_)
  · have e : (fun j => ((zuR h a i x).2.2.2 a j).map ad) = va_up (fun j => (h.2.2.2 a j).map ad) i (some (ad x)) := by
      funext j
      by_cases hj : j = i <;> simp [zuR, va_up, hj]
    simp only [zel, zac, e]
  · funext j; simp [zuR, hk]
theorem zws_add {cA : Nat → ClassId} {ad : Nat → Nat} {h : zH} {q : Nat ⊕ (Nat × Nat)} : zws cA ad (zadd h q) = zws cA ad h ++ [(ad h.1.length, zel cA ad (zadd h q) h.1.length q)] := by
  apply List.ext_getElem?
  intro j
  by_cases hj : j < h.1.length
  · obtain ⟨q', hq'⟩ : ∃ q', h.1[j]? = some q' := ⟨_, List.getElem?_eq_getElem hj⟩
    have hne : j ≠ h.1.length := by omega
    rw [List.getElem?_append_left (by rw [zws_len]; exact hj), zws_at hq', zws_at (h := zadd h q) (q := q') (by show (h.1 ++ [q])[j]? = _; rw [List.getElem?_append_left hj]; exact hq')]
    rw [zel_off (h := h) (by funext i; simp [zadd, hne]) (by funext i; simp [zadd, hne]) (by funext i; simp [zadd, hne])]
  · by_cases hj2 : j = h.1.length
    · subst hj2
      rw [List.getElem?_append_right (by rw [zws_len]; omega), zws_at (h := zadd h q) (q := q) (by show (h.1 ++ [q])[h.1.length]? = _; simp)]
      simp [zws_len]
    · rw [List.getElem?_eq_none_iff.mpr (by rw [zws_len]; simp [zadd]; omega), List.getElem?_eq_none_iff.mpr (by simp [zws_len]; omega)]
def zcls (ci : Nat) (C : String) (T : u_T) (N : Nat) (ty : Nat → FieldType) : Prop := zcl[ci]? = some (C, T, N) ∧ (∀ w ∈ u_ws C T N, w ∈ ztb) ∧ (∀ k, k < N → parseFieldDescriptor (T k).2.2.1 = some (ty k)) ∧ (∀ a, a < N → ∀ b, b < N → a ≠ b → (T a).2.1 ≠ (T b).2.1) ∧ (∀ k, k < N → (T k).1 = C) ∧ (zkd ci).length = N ∧ (∀ k, k < N → (zkd ci).getD k 9 = (match ty k with | .long => 1 | .object _ => 2 | .array _ => 2 | _ => 0))
theorem zgood {C : String} {T : u_T} {N : Nat} (hi : ∀ w ∈ u_ws C T N, w ∈ lw_tbl) : ∀ w ∈ u_ws C T N, w ∈ ztb := by
  intro w hw
  refine List.mem_filter.mpr ⟨hi w hw, ?_⟩
  obtain ⟨k, -, rfl⟩ := List.mem_map.mp hw
  unfold u_lay
  split <;> rfl
def zFL (own : String) (ix ci i : Nat) (C : String) (T : u_T) (N : Nat) (ty : Nat → FieldType) : Prop := zcls ci C T N ty ∧ i < N ∧ (Cond.fieldLink own ix C (T i).2.1 (T i).2.2.1 ∈ ztb ∨ ∃ host : String, Cond.fieldLinkNest own ix C (T i).2.1 (T i).2.2.1 host ∈ znw)

theorem zk_Atlas : zcls 0 R_Atlas F_Atlas 17 t_Atlas := ⟨rfl, zgood i_Atlas, t_Atlas_ok, n_Atlas, by decide +kernel, rfl, k_Atlas_ok⟩
theorem zk_Bytes : zcls 1 R_Bytes F_Bytes 2 t_Bytes := ⟨rfl, zgood i_Bytes, t_Bytes_ok, n_Bytes, by decide +kernel, rfl, k_Bytes_ok⟩
theorem zk_Index : zcls 2 R_Index F_Index 2 t_Index := ⟨rfl, zgood i_Index, t_Index_ok, n_Index, by decide +kernel, rfl, k_Index_ok⟩
theorem zk_Joined : zcls 3 R_Joined F_Joined 16 t_Joined := ⟨rfl, zgood i_Joined, t_Joined_ok, n_Joined, by decide +kernel, rfl, k_Joined_ok⟩
theorem zk_Reader : zcls 4 R_Reader F_Reader 9 t_Reader := ⟨rfl, zgood i_Reader, t_Reader_ok, n_Reader, by decide +kernel, rfl, k_Reader_ok⟩
theorem zk_Row : zcls 5 R_Row F_Row 8 t_Row := ⟨rfl, zgood i_Row, t_Row_ok, n_Row, by decide +kernel, rfl, k_Row_ok⟩
theorem zk_Search : zcls 6 R_Search F_Search 9 t_Search := ⟨rfl, zgood i_Search, t_Search_ok, n_Search, by decide +kernel, rfl, k_Search_ok⟩
theorem zk_Sight : zcls 7 R_Sight F_Sight 10 t_Sight := ⟨rfl, zgood i_Sight, t_Sight_ok, n_Sight, by decide +kernel, rfl, k_Sight_ok⟩
theorem zk_Study : zcls 8 R_Study F_Study 16 t_Study := ⟨rfl, zgood i_Study, t_Study_ok, n_Study, by decide +kernel, rfl, k_Study_ok⟩
theorem zk_Table : zcls 9 R_Table F_Table 12 t_Table := ⟨rfl, zgood i_Table, t_Table_ok, n_Table, by decide +kernel, rfl, k_Table_ok⟩
theorem zk_World : zcls 10 R_World F_World 5 t_World := ⟨rfl, zgood i_World, t_World_ok, n_World, by decide +kernel, rfl, k_World_ok⟩
theorem zk_PA : zcls 11 R_PA F_PA 16 t_PA := ⟨rfl, zgood i_PA, t_PA_ok, n_PA, by decide +kernel, rfl, k_PA_ok⟩
theorem zk_MO : zcls 12 R_MO F_MO 85 t_MO := ⟨rfl, zgood i_MO, t_MO_ok, n_MO, by decide +kernel, rfl, k_MO_ok⟩
theorem aw_get {S : zS} {al : Bool} {kc ks pc : Nat} {ls : List (Nat × Value)} {st : List Value} {h : zH} {Q : Option Value → zH → Prop} {ix ci i : Nat} {C : String} {T : u_T} {N : Nat} {ty : Nat → FieldType} (hk : zFL S.1.cls ix ci i C T N ty) {a : Nat} (ha : h.1[a]? = some (.inl ci)) {v w : Value} (hv : ∀ ad, zfv ad h a i ((zkd ci).getD i 9) = zv ad v) (hd : decode S.2.1 pc = .ok (.getfield ix, 3)) (k : AW S al kc ks (pc + 3) (ls) (v :: st) (h) Q) : AW S al kc ks (pc) (ls) (.ref a :: st) (h) Q := by
  intro l p e s m args below meth c D cA ad A H locs lv hC hH hl
  obtain ⟨⟨hc, hin, hty, hnm, hown, hlen, hkd⟩, hi, hlk⟩ := hk
  have hT : ∀ w ∈ u_ws C T N, w ∈ (Cond.code S.1 S.2.1 S.2.2.1 S.2.2.2.1 :: ztb) := fun w hw => List.mem_cons_of_mem _ (hin w hw)
  have hfs : (zfs (zkd ci) ad h a)[i]? = some (zv ad v) := by rw [zfs_at (by rw [hlen]; exact hi), hv]
  have kk := k l p e s m args below meth c D cA ad A H locs lv hC hH hl
  rcases hlk with hlk | ⟨host, hlk⟩
  · exact va_get hC.1 hC.2.1 hC.2.2.2.2.2.1 hT hC.2.2.2.2.1 hC.2.2.2.2.2.2.2.2.1 hH.1 a (zws_at ha) hc i hi (hC.w hlk) (by rw [hown i hi]; exact fun _ q => q) hfs hd kk
  · exact va_getN hC.1 hC.2.1 hC.2.2.2.2.2.1 hT hC.2.2.2.2.1 hC.2.2.2.2.2.2.2.2.1 hH.1 a (zws_at ha) hc i hi (va_Nw.use rfl (hC.2.2.2.2.2.2.2.2.2.1 _ hlk)) (by rw [hown i hi]; exact fun _ q => q) hfs hd kk
theorem aw_getI {S : zS} {al : Bool} {kc ks pc : Nat} {ls : List (Nat × Value)} {st : List Value} {h : zH} {Q : Option Value → zH → Prop} {ix ci i : Nat} {C : String} {T : u_T} {N : Nat} {ty : Nat → FieldType} (hk : zFL S.1.cls ix ci i C T N ty) {a : Nat} (ha : h.1[a]? = some (.inl ci)) (hkd : (zkd ci).getD i 9 = 0) (hd : decode S.2.1 pc = .ok (.getfield ix, 3)) (k : AW S al kc ks (pc + 3) (ls) (.int (h.2.1 a i) :: st) (h) Q) : AW S al kc ks (pc) (ls) (.ref a :: st) (h) Q := aw_get (w := .null) hk ha (v := .int (h.2.1 a i)) (fun ad => by rw [hkd]; rfl) hd k
theorem aw_getJ {S : zS} {al : Bool} {kc ks pc : Nat} {ls : List (Nat × Value)} {st : List Value} {h : zH} {Q : Option Value → zH → Prop} {ix ci i : Nat} {C : String} {T : u_T} {N : Nat} {ty : Nat → FieldType} (hk : zFL S.1.cls ix ci i C T N ty) {a : Nat} (ha : h.1[a]? = some (.inl ci)) (hkd : (zkd ci).getD i 9 = 1) (hd : decode S.2.1 pc = .ok (.getfield ix, 3)) (k : AW S al kc ks (pc + 3) (ls) (.long (h.2.2.1 a i) :: st) (h) Q) : AW S al kc ks (pc) (ls) (.ref a :: st) (h) Q := aw_get (w := .null) hk ha (v := .long (h.2.2.1 a i)) (fun ad => by rw [hkd]; rfl) hd k
theorem aw_getR {S : zS} {al : Bool} {kc ks pc : Nat} {ls : List (Nat × Value)} {st : List Value} {h : zH} {Q : Option Value → zH → Prop} {ix ci i : Nat} {C : String} {T : u_T} {N : Nat} {ty : Nat → FieldType} (hk : zFL S.1.cls ix ci i C T N ty) {a : Nat} (ha : h.1[a]? = some (.inl ci)) (hkd : (zkd ci).getD i 9 = 2) {b : Nat} (hr : h.2.2.2 a i = some b) (hd : decode S.2.1 pc = .ok (.getfield ix, 3)) (k : AW S al kc ks (pc + 3) (ls) (.ref b :: st) (h) Q) : AW S al kc ks (pc) (ls) (.ref a :: st) (h) Q := aw_get (w := .null) hk ha (v := .ref b) (fun ad => by rw [hkd]; simp [zfv, hr, va_rf, zv]) hd k
theorem aw_put {S : zS} {al : Bool} {kc ks pc : Nat} {ls : List (Nat × Value)} {st : List Value} {h : zH} {Q : Option Value → zH → Prop} {ix ci i : Nat} {C : String} {T : u_T} {N : Nat} {ty : Nat → FieldType} (hk : zFL S.1.cls ix ci i C T N ty) {a : Nat} (ha : h.1[a]? = some (.inl ci)) {v : Value} {h' : zH} (hfin : (T i).2.2.2 = false) (hsh : h'.1 = h.1) (hst : ∀ (cA : Nat → ClassId) (ad : Nat → Nat), (zws cA ad h).set a (ad a, .inr (ci, (zfs (zkd ci) ad h a).set i (zv ad v))) = zws cA ad h') (hn : ∀ ad, narrow (ty i) (zv ad v) = zv ad v) (hf : ∀ ad, fits (ty i) (zv ad v) = true) (hd : decode S.2.1 pc = .ok (.putfield ix, 3)) (k : AW S al kc ks (pc + 3) (ls) (st) (h') Q) : AW S al kc ks (pc) (ls) (v :: .ref a :: st) (h) Q := by
  intro l p e s m args below meth c D cA ad A H locs lv hC hH hl
  obtain ⟨⟨hc, hin, hty, hnm, hown, hlen, hkd⟩, hi, hlk⟩ := hk
  have hT : ∀ w ∈ u_ws C T N, w ∈ (Cond.code S.1 S.2.1 S.2.2.1 S.2.2.2.1 :: ztb) := fun w hw => List.mem_cons_of_mem _ (hin w hw)
  have hl2 : i < (zfs (zkd ci) ad h a).length := by simp [zfs, hlen]; exact hi
  have kk : ∀ (H1 : Heap) (locs1 : List Loc), va_P D zcl ((zws cA ad h).set a (ad a, .inr (ci, (zfs (zkd ci) ad h a).set i (zv ad v)))) H1 → va_D A ((zws cA ad h).set a (ad a, .inr (ci, (zfs (zkd ci) ad h a).set i (zv ad v)))) → va_S A s.heap H1 locs1 → H1.size = H.size → W p l e S.2.2.2.2 s m args below meth c H1 locs1 kc ks (MQ below (zQ al D cA ad A Q) args s S.2.2.2.2.cells S.2.2.2.2.slots A) (F0 m (pc + 3) lv (st.map (zv ad))) := by
    intro H1 locs1 hP1 hD1 hS1 hz
    rw [hst] at hP1 hD1
    exact k l p e s m args below meth c D cA ad A H1 locs1 lv hC ⟨hP1, hD1, hS1, fun q => by rw [hz, hsh]; exact hH.2.2.2 q⟩ hl
  have hap := va_apart (own := S.1.cls) hC.2.2.2.2.2.1 hT ty hty hnm hC.2.2.2.2.2.2.2.2.1 hc
  obtain ⟨r, h1, cell, q1, q2, q3, q4⟩ := hH.1 a _ (zws_at ha)
  have hr : r = (C, T, N) := Option.some.inj (h1.symm.trans hc)
  subst hr
  obtain ⟨hS, hfc, kC, hkC, hkind⟩ := hC.2.2.2.2.2.2.2.2.1.1 ci _ hc
  obtain ⟨cf, kf, fi, f, hif, hsl⟩ := hS i hi
  have hlay := hC.2.2.2.2.2.1 _ (hT _ (u_in_lay hi))
  unfold u_lay at hlay
  rw [if_neg (by rw [hfin]; decide)] at hlay
  have hstt := (u_facts hfc hkC (u_lays hC.2.2.2.2.2.1 hT hi) hif).1
  have h6 := u_store hfc hkC hkind hlay hif (hty i hi) (hn ad) (hf ad)
  have hsame : ∀ x, s.fieldFound? (T i).1 (T i).2.1 (T i).2.2.1 = some x → s.fieldFound? C (T i).2.1 (T i).2.2.1 = some x := by rw [hown i hi]; exact fun _ q => q
  have fin : ∀ H' : Heap, H'[ad a]? = some (cell.setSlot f.slot (zv ad v)) → H'.size = H.size → (∀ q : Nat, q ≠ ad a → H'[q]? = H[q]?) → W p l e S.2.2.2.2 s m args below meth c H' (locs ++ [⟨ad a, f.slot⟩]) kc ks (MQ below (zQ al D cA ad A Q) args s S.2.2.2.2.cells S.2.2.2.2.slots A) (F0 m (pc + 3) lv (st.map (zv ad))) := by
    intro H' e1 e2 e3
    rw [hsl] at e1 ⊢
    exact kk H' _ (hH.1.set hH.2.1 (zws_at ha) ⟨_, hc, t_OB.to (V := updV (vp_V (zfs (zkd ci) ad h a)) i (zv ad v)) ⟨_, e1, q2, q3, t_set q4 hap hi (zv ad v)⟩ (fun j _ => vp_updV_set hl2 (zv ad v) j)⟩ e3) (hH.2.1.set (zws_at ha)) (hH.2.2.1.put e2 e3 (hH.2.1.2 a _ (zws_at ha))) e2
  rcases hlk with hlk | ⟨host, hlk⟩
  · exact W.putK hC.1 hC.2.1 (f := f) ⟨hC.2.2.2.2.1, hC.w hlk, ⟨_, _, _, hsame _ hif⟩, hstt⟩ (by rw [q2]; exact h6) q1 q3 (by rw [hsl]; exact k2_hasslot (q4 i hi)) rfl rfl hd fin
  · exact va_WputK hC.1 hC.2.1 (f := f) hC.2.2.2.2.1 (va_Nw.use rfl (hC.2.2.2.2.2.2.2.2.2.1 _ hlk)) (hsame _ hif) hstt (by rw [q2]; exact h6) q1 q3 (by rw [hsl]; exact k2_hasslot (q4 i hi)) rfl rfl hd fin
theorem aw_putI {S : zS} {al : Bool} {kc ks pc : Nat} {ls : List (Nat × Value)} {st : List Value} {h : zH} {Q : Option Value → zH → Prop} {ix ci i : Nat} {C : String} {T : u_T} {N : Nat} {ty : Nat → FieldType} (hk : zFL S.1.cls ix ci i C T N ty) {a : Nat} (ha : h.1[a]? = some (.inl ci)) {x : Int32} (hfin : (T i).2.2.2 = false) (hty : ty i = .int) (hkd : (zkd ci).getD i 9 = 0) (hi : i < (zkd ci).length) (hd : decode S.2.1 pc = .ok (.putfield ix, 3)) (k : AW S al kc ks (pc + 3) (ls) (st) (zuI h a i x) Q) : AW S al kc ks (pc) (ls) (.int x :: .ref a :: st) (h) Q := aw_put (h' := zuI h a i x) hk ha hfin rfl (fun _ _ => zws_putI ha hi hkd) (fun _ => by rw [hty]; rfl) (fun _ => by rw [hty]; rfl) hd k
theorem aw_putZ {S : zS} {al : Bool} {kc ks pc : Nat} {ls : List (Nat × Value)} {st : List Value} {h : zH} {Q : Option Value → zH → Prop} {ix ci i : Nat} {C : String} {T : u_T} {N : Nat} {ty : Nat → FieldType} (hk : zFL S.1.cls ix ci i C T N ty) {a : Nat} (ha : h.1[a]? = some (.inl ci)) {x : Int32} (hfin : (T i).2.2.2 = false) (hty : ty i = .boolean) (hkd : (zkd ci).getD i 9 = 0) (hi : i < (zkd ci).length) (hx : x = 0 ∨ x = 1) (hd : decode S.2.1 pc = .ok (.putfield ix, 3)) (k : AW S al kc ks (pc + 3) (ls) (st) (zuI h a i x) Q) : AW S al kc ks (pc) (ls) (.int x :: .ref a :: st) (h) Q := aw_put (h' := zuI h a i x) hk ha hfin rfl (fun _ _ => zws_putI ha hi hkd) (fun _ => by rw [hty]; rcases hx with rfl | rfl <;> rfl) (fun _ => by rw [hty]; rcases hx with rfl | rfl <;> rfl) hd k
theorem aw_putJ {S : zS} {al : Bool} {kc ks pc : Nat} {ls : List (Nat × Value)} {st : List Value} {h : zH} {Q : Option Value → zH → Prop} {ix ci i : Nat} {C : String} {T : u_T} {N : Nat} {ty : Nat → FieldType} (hk : zFL S.1.cls ix ci i C T N ty) {a : Nat} (ha : h.1[a]? = some (.inl ci)) {x : Int64} (hfin : (T i).2.2.2 = false) (hty : ty i = .long) (hkd : (zkd ci).getD i 9 = 1) (hi : i < (zkd ci).length) (hd : decode S.2.1 pc = .ok (.putfield ix, 3)) (k : AW S al kc ks (pc + 3) (ls) (st) (zuJ h a i x) Q) : AW S al kc ks (pc) (ls) (.long x :: .ref a :: st) (h) Q := aw_put (h' := zuJ h a i x) hk ha hfin rfl (fun _ _ => zws_putJ ha hi hkd) (fun _ => by rw [hty]; rfl) (fun _ => by rw [hty]; rfl) hd k
theorem aw_putR {S : zS} {al : Bool} {kc ks pc : Nat} {ls : List (Nat × Value)} {st : List Value} {h : zH} {Q : Option Value → zH → Prop} {ix ci i : Nat} {C : String} {T : u_T} {N : Nat} {ty : Nat → FieldType} (hk : zFL S.1.cls ix ci i C T N ty) {a : Nat} (ha : h.1[a]? = some (.inl ci)) {x : Nat} {cn : String} (hfin : (T i).2.2.2 = false) (hty : ty i = .object cn) (hkd : (zkd ci).getD i 9 = 2) (hi : i < (zkd ci).length) (hd : decode S.2.1 pc = .ok (.putfield ix, 3)) (k : AW S al kc ks (pc + 3) (ls) (st) (zuR h a i x) Q) : AW S al kc ks (pc) (ls) (.ref x :: .ref a :: st) (h) Q := aw_put (h' := zuR h a i x) hk ha hfin rfl (fun _ _ => zws_putR ha hi hkd) (fun _ => by rw [hty]; rfl) (fun _ => by rw [hty]; rfl) hd k
theorem aw_iaload {S : zS} {al : Bool} {kc ks pc : Nat} {ls : List (Nat × Value)} {st : List Value} {h : zH} {Q : Option Value → zH → Prop} {a n : Nat} {j : Int32} (ha : h.1[a]? = some (.inr (0, n))) (hin : vp_in j n) (hd : decode S.2.1 pc = .ok (.iaload, 1)) (k : AW S al kc ks (pc + 1) (ls) (.int (h.2.1 a j.toNatClampNeg) :: st) (h) Q) : AW S al kc ks (pc) (ls) (.int j :: .ref a :: st) (h) Q := by
  intro l p e s m args below meth c D cA ad A H locs lv hC hH hl
  exact va_iald hC.1 hC.2.1 hC.2.2.2.2.2.2.2.2.1 hH.1 a 0 (zws_at ha) rfl hin hd (k l p e s m args below meth c D cA ad A H locs lv hC hH hl)
theorem aw_baload {S : zS} {al : Bool} {kc ks pc : Nat} {ls : List (Nat × Value)} {st : List Value} {h : zH} {Q : Option Value → zH → Prop} {a n : Nat} {j : Int32} (ha : h.1[a]? = some (.inr (1, n))) (hin : vp_in j n) (hd : decode S.2.1 pc = .ok (.baload, 1)) (k : AW S al kc ks (pc + 1) (ls) (.int (h.2.1 a j.toNatClampNeg) :: st) (h) Q) : AW S al kc ks (pc) (ls) (.int j :: .ref a :: st) (h) Q := by
  intro l p e s m args below meth c D cA ad A H locs lv hC hH hl
  exact va_zald hC.1 hC.2.1 hC.2.2.2.2.2.2.2.2.1 hH.1 a 1 (zws_at ha) rfl hin hd (k l p e s m args below meth c D cA ad A H locs lv hC hH hl)
theorem aw_caload {S : zS} {al : Bool} {kc ks pc : Nat} {ls : List (Nat × Value)} {st : List Value} {h : zH} {Q : Option Value → zH → Prop} {a n : Nat} {j : Int32} (ha : h.1[a]? = some (.inr (2, n))) (hin : vp_in j n) (hd : decode S.2.1 pc = .ok (.caload, 1)) (k : AW S al kc ks (pc + 1) (ls) (.int (h.2.1 a j.toNatClampNeg) :: st) (h) Q) : AW S al kc ks (pc) (ls) (.int j :: .ref a :: st) (h) Q := by
  intro l p e s m args below meth c D cA ad A H locs lv hC hH hl
  exact va_cald hC.1 hC.2.1 hC.2.2.2.2.2.2.2.2.1 hH.1 a 2 (zws_at ha) rfl hin hd (k l p e s m args below meth c D cA ad A H locs lv hC hH hl)
theorem aw_laload {S : zS} {al : Bool} {kc ks pc : Nat} {ls : List (Nat × Value)} {st : List Value} {h : zH} {Q : Option Value → zH → Prop} {a n : Nat} {j : Int32} (ha : h.1[a]? = some (.inr (3, n))) (hin : vp_in j n) (hd : decode S.2.1 pc = .ok (.laload, 1)) (k : AW S al kc ks (pc + 1) (ls) (.long (h.2.2.1 a j.toNatClampNeg) :: st) (h) Q) : AW S al kc ks (pc) (ls) (.int j :: .ref a :: st) (h) Q := by
  intro l p e s m args below meth c D cA ad A H locs lv hC hH hl
  exact va_lald hC.1 hC.2.1 hC.2.2.2.2.2.2.2.2.1 hH.1 a 3 (zws_at ha) rfl hin hd (k l p e s m args below meth c D cA ad A H locs lv hC hH hl)
theorem aw_aaload {S : zS} {al : Bool} {kc ks pc : Nat} {ls : List (Nat × Value)} {st : List Value} {h : zH} {Q : Option Value → zH → Prop} {a n b : Nat} {j : Int32} (ha : h.1[a]? = some (.inr (4, n))) (hin : vp_in j n) (hr : h.2.2.2 a j.toNatClampNeg = some b) (hd : decode S.2.1 pc = .ok (.aaload, 1)) (k : AW S al kc ks (pc + 1) (ls) (.ref b :: st) (h) Q) : AW S al kc ks (pc) (ls) (.int j :: .ref a :: st) (h) Q := by
  intro l p e s m args below meth c D cA ad A H locs lv hC hH hl
  have kk := k l p e s m args below meth c D cA ad A H locs lv hC hH hl
  refine va_aldq hC.1 hC.2.1 hC.2.2.2.2.2.2.2.2.1 hH.1 a 4 (zws_at ha) rfl hin hd ?_
  simp only [hr]
  exact kk
theorem aw_alen {S : zS} {al : Bool} {kc ks pc : Nat} {ls : List (Nat × Value)} {st : List Value} {h : zH} {Q : Option Value → zH → Prop} {a t n : Nat} (v : Int32) (ha : h.1[a]? = some (.inr (t, n))) (ht : t < 5) (hv : Int32.ofNat n = v) (hd : decode S.2.1 pc = .ok (.arraylength, 1)) (k : AW S al kc ks (pc + 1) (ls) (.int v :: st) (h) Q) : AW S al kc ks (pc) (ls) (.ref a :: st) (h) Q := by
  intro l p e s m args below meth c D cA ad A H locs lv hC hH hl
  have kk := k l p e s m args below meth c D cA ad A H locs lv hC hH hl
  match t, ht with
  | 0, _ => exact va_alen hC.1 hC.2.1 hC.2.2.2.2.2.2.2.2.1 hH.1 a 0 (zws_at ha) rfl hv hd kk
  | 1, _ => exact va_alen hC.1 hC.2.1 hC.2.2.2.2.2.2.2.2.1 hH.1 a 1 (zws_at ha) rfl hv hd kk
  | 2, _ => exact va_alen hC.1 hC.2.1 hC.2.2.2.2.2.2.2.2.1 hH.1 a 2 (zws_at ha) rfl hv hd kk
  | 3, _ => exact va_alen hC.1 hC.2.1 hC.2.2.2.2.2.2.2.2.1 hH.1 a 3 (zws_at ha) rfl hv hd kk
  | 4, _ => exact va_alen hC.1 hC.2.1 hC.2.2.2.2.2.2.2.2.1 hH.1 a 4 (zws_at ha) rfl hv hd kk
theorem aw_iastore {S : zS} {al : Bool} {kc ks pc : Nat} {ls : List (Nat × Value)} {st : List Value} {h : zH} {Q : Option Value → zH → Prop} {a n : Nat} {j x : Int32} (ha : h.1[a]? = some (.inr (0, n))) (hin : vp_in j n) (hd : decode S.2.1 pc = .ok (.iastore, 1)) (k : AW S al kc ks (pc + 1) (ls) (st) (zuI h a j.toNatClampNeg (x)) Q) : AW S al kc ks (pc) (ls) (.int x :: .int j :: .ref a :: st) (h) Q := by
  intro l p e s m args below meth c D cA ad A H locs lv hC hH hl
  refine W.iast hC.1 hC.2.1 (hH.1 a _ (zws_at ha)) ((hC.2.2.2.2.2.2.2.2.1.2 0 _ rfl).1 n (fun j => .int (h.2.1 a j))) (fun q => by cases q) (by show ¬ (j < 0 ∨ (arrV _ _ _).slots.size ≤ _); rw [arrV_size]; exact hin) rfl rfl hd fun H1 e1 z oq => ?_
  have e2 : va_at D zcl (ad a, .inl (cA 0, n, .inl (upd (h.2.1 a) j.toNatClampNeg (x)))) H1 := by
    show H1[ad a]? = some (vp_cell _ _)
    rw [e1]
    show some (Cell.setSlot (vp_cell _ (n, .inl (h.2.1 a))) _ _) = _
    rw [vp_cell_i, vp_cell_i, arrV_store]
    congr 2
    funext q
    by_cases hq : q = j.toNatClampNeg
    · subst hq
      simp [updV, upd, vp_nar]
      try rfl
    · simp [updV, upd, hq]
  have hP1 := hH.1.set hH.2.1 (zws_at ha) e2 oq
  have hD1 := hH.2.1.set (e := .inl (cA 0, n, .inl (upd (h.2.1 a) j.toNatClampNeg (x)))) (zws_at ha)
  rw [zws_astI ha (by decide)] at hP1 hD1
  exact k l p e s m args below meth c D cA ad A H1 _ lv hC ⟨hP1, hD1, hH.2.2.1.put z oq (hH.2.1.2 a _ (zws_at ha)), fun q => by rw [z]; exact hH.2.2.2 q⟩ hl
theorem aw_bastore {S : zS} {al : Bool} {kc ks pc : Nat} {ls : List (Nat × Value)} {st : List Value} {h : zH} {Q : Option Value → zH → Prop} {a n : Nat} {j x : Int32} (ha : h.1[a]? = some (.inr (1, n))) (hin : vp_in j n) (hd : decode S.2.1 pc = .ok (.bastore, 1)) (k : AW S al kc ks (pc + 1) (ls) (st) (zuI h a j.toNatClampNeg (vp_nar .boolean x)) Q) : AW S al kc ks (pc) (ls) (.int x :: .int j :: .ref a :: st) (h) Q := by
  intro l p e s m args below meth c D cA ad A H locs lv hC hH hl
  refine W.zast hC.1 hC.2.1 (hH.1 a _ (zws_at ha)) ((hC.2.2.2.2.2.2.2.2.1.2 1 _ rfl).1 n (fun j => .int (h.2.1 a j))) (fun q => by cases q) (by show ¬ (j < 0 ∨ (arrV _ _ _).slots.size ≤ _); rw [arrV_size]; exact hin) rfl rfl hd fun H1 e1 z oq => ?_
  have e2 : va_at D zcl (ad a, .inl (cA 1, n, .inl (upd (h.2.1 a) j.toNatClampNeg (vp_nar .boolean x)))) H1 := by
    show H1[ad a]? = some (vp_cell _ _)
    rw [e1]
    show some (Cell.setSlot (vp_cell _ (n, .inl (h.2.1 a))) _ _) = _
    rw [vp_cell_i, vp_cell_i, arrV_store]
    congr 2
    funext q
    by_cases hq : q = j.toNatClampNeg
    · subst hq
      simp [updV, upd, vp_nar]
      try rfl
    · simp [updV, upd, hq]
  have hP1 := hH.1.set hH.2.1 (zws_at ha) e2 oq
  have hD1 := hH.2.1.set (e := .inl (cA 1, n, .inl (upd (h.2.1 a) j.toNatClampNeg (vp_nar .boolean x)))) (zws_at ha)
  rw [zws_astI ha (by decide)] at hP1 hD1
  exact k l p e s m args below meth c D cA ad A H1 _ lv hC ⟨hP1, hD1, hH.2.2.1.put z oq (hH.2.1.2 a _ (zws_at ha)), fun q => by rw [z]; exact hH.2.2.2 q⟩ hl
theorem aw_castore {S : zS} {al : Bool} {kc ks pc : Nat} {ls : List (Nat × Value)} {st : List Value} {h : zH} {Q : Option Value → zH → Prop} {a n : Nat} {j x : Int32} (ha : h.1[a]? = some (.inr (2, n))) (hin : vp_in j n) (hd : decode S.2.1 pc = .ok (.castore, 1)) (k : AW S al kc ks (pc + 1) (ls) (st) (zuI h a j.toNatClampNeg (vp_nar .char x)) Q) : AW S al kc ks (pc) (ls) (.int x :: .int j :: .ref a :: st) (h) Q := by
  intro l p e s m args below meth c D cA ad A H locs lv hC hH hl
  refine W.cast hC.1 hC.2.1 (hH.1 a _ (zws_at ha)) ((hC.2.2.2.2.2.2.2.2.1.2 2 _ rfl).1 n (fun j => .int (h.2.1 a j))) (fun q => by cases q) (by show ¬ (j < 0 ∨ (arrV _ _ _).slots.size ≤ _); rw [arrV_size]; exact hin) rfl rfl hd fun H1 e1 z oq => ?_
  have e2 : va_at D zcl (ad a, .inl (cA 2, n, .inl (upd (h.2.1 a) j.toNatClampNeg (vp_nar .char x)))) H1 := by
    show H1[ad a]? = some (vp_cell _ _)
    rw [e1]
    show some (Cell.setSlot (vp_cell _ (n, .inl (h.2.1 a))) _ _) = _
    rw [vp_cell_i, vp_cell_i, arrV_store]
    congr 2
    funext q
    by_cases hq : q = j.toNatClampNeg
    · subst hq
      simp [updV, upd, vp_nar]
      try rfl
    · simp [updV, upd, hq]
  have hP1 := hH.1.set hH.2.1 (zws_at ha) e2 oq
  have hD1 := hH.2.1.set (e := .inl (cA 2, n, .inl (upd (h.2.1 a) j.toNatClampNeg (vp_nar .char x)))) (zws_at ha)
  rw [zws_astI ha (by decide)] at hP1 hD1
  exact k l p e s m args below meth c D cA ad A H1 _ lv hC ⟨hP1, hD1, hH.2.2.1.put z oq (hH.2.1.2 a _ (zws_at ha)), fun q => by rw [z]; exact hH.2.2.2 q⟩ hl
theorem aw_lastore {S : zS} {al : Bool} {kc ks pc : Nat} {ls : List (Nat × Value)} {st : List Value} {h : zH} {Q : Option Value → zH → Prop} {a n : Nat} {j : Int32} {x : Int64} (ha : h.1[a]? = some (.inr (3, n))) (hin : vp_in j n) (hd : decode S.2.1 pc = .ok (.lastore, 1)) (k : AW S al kc ks (pc + 1) (ls) (st) (zuJ h a j.toNatClampNeg x) Q) : AW S al kc ks (pc) (ls) (.long x :: .int j :: .ref a :: st) (h) Q := by
  intro l p e s m args below meth c D cA ad A H locs lv hC hH hl
  refine W.last hC.1 hC.2.1 (hH.1 a _ (zws_at ha)) ((hC.2.2.2.2.2.2.2.2.1.2 3 _ rfl).1 n (fun j => .long (h.2.2.1 a j))) (fun q => by cases q) (by show ¬ (j < 0 ∨ (arrV _ _ _).slots.size ≤ _); rw [arrV_size]; exact hin) rfl rfl hd fun H1 e1 z oq => ?_
  have e2 : va_at D zcl (ad a, .inl (cA 3, n, .inr (.inl (vp_updL (h.2.2.1 a) j.toNatClampNeg x)))) H1 := by
    show H1[ad a]? = some (vp_cell _ _)
    rw [e1]
    show some (Cell.setSlot (vp_cell _ (n, .inr (.inl (h.2.2.1 a)))) _ _) = _
    rw [vp_cell_l, vp_cell_l, arrV_store]
    congr 2
    funext q
    by_cases hq : q = j.toNatClampNeg
    · subst hq
      simp [updV, vp_updL]
    · simp [updV, vp_updL, hq]
  have hP1 := hH.1.set hH.2.1 (zws_at ha) e2 oq
  have hD1 := hH.2.1.set (e := .inl (cA 3, n, .inr (.inl (vp_updL (h.2.2.1 a) j.toNatClampNeg x)))) (zws_at ha)
  rw [zws_astJ ha] at hP1 hD1
  exact k l p e s m args below meth c D cA ad A H1 _ lv hC ⟨hP1, hD1, hH.2.2.1.put z oq (hH.2.1.2 a _ (zws_at ha)), fun q => by rw [z]; exact hH.2.2.2 q⟩ hl
