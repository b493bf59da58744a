/-! the component: small steps, base rows -/
theorem cq_pl (s i : Nat) : nI s * 12 + nI i = nI (s * 12 + i) := by
  rw [show (12 : Int32) = nI 12 from rfl, pk_mul, nI_add]
theorem x_pl {post : Int32 → Prop} {s i : Nat} (h : post (nI (s * 12 + i))) : wpX_placeOf post (nI s) (nI i) := by
  unfold wpX_placeOf
  rw [cq_pl]
  exact h
theorem x_pl0 {post : Int32 → Prop} {i : Nat} (h : post (nI i)) : wpX_placeOf post 0 (nI i) := by
  have e : 0 * 12 + i = i := by omega
  have := x_pl (post := post) (s := 0) (i := i) (by rw [e]; exact h)
  exact this
theorem x_pl1 {post : Int32 → Prop} {i : Nat} (h : post (nI (12 + i))) : wpX_placeOf post 1 (nI i) := by
  have e : 1 * 12 + i = 12 + i := by omega
  have := x_pl (post := post) (s := 1) (i := i) (by rw [e]; exact h)
  exact this
theorem x_move {post : SX → Prop} {cp ph nw jn pj ag ac op bc nc rc oc : Int32} {wk ws fo ff fc hd ts ks vs ba na ra oa : Nat → Int32} {s i j : Nat} (hi : s * 12 + i < 24) (hj : s * 12 + j < 24) (h : post (cp, ph, nw, jn, pj, ag, ac, op, bc, nc, rc, oc, wk, ws, fo, ff, fc, hd, upd ts (s * 12 + j) (ts (s * 12 + i)), upd ks (s * 12 + j) (ks (s * 12 + i)), upd vs (s * 12 + j) (vs (s * 12 + i)), ba, na, ra, oa)) : wpX_moveTuple post (cp, ph, nw, jn, pj, ag, ac, op, bc, nc, rc, oc, wk, ws, fo, ff, fc, hd, ts, ks, vs, ba, na, ra, oa) (nI s) (nI i) (nI j) := by
  have c1 : (nI (s * 12 + i)).toNatClampNeg = s * 12 + i := nI_clamp (by omega)
  have c2 : (nI (s * 12 + j)).toNatClampNeg = s * 12 + j := nI_clamp (by omega)
  have w1 : vp_in (nI (s * 12 + i)) 24 := vp_in_nI hi (by omega)
  have w2 : vp_in (nI (s * 12 + j)) 24 := vp_in_nI hj (by omega)
  unfold wpX_moveTuple
  dsimp only
  refine x_pl (x_pl ⟨w1, w2, ?_⟩)
  rw [c1, c2]
  exact nm_e ⟨w1, w2, nm_e ⟨w1, w2, nm_e h⟩⟩
theorem cq_q0 {post : Int32 → Prop} {c z : Int32} (h1 : cq_pz (nI 0) c z = true → post 1) : post 1 :=
  h1 (by unfold cq_pz; rw [if_neg (by decide), if_neg (by decide), if_neg (by decide), if_neg (by decide)])
theorem cq_q1 {post : Int32 → Prop} {c z : Int32} (h1 : cq_pz (nI 1) c z = true → post 1) (h0 : cq_pz (nI 1) c z = false → post 0) : (z = c → post 1) ∧ (¬ z = c → post 0) := by
  have e : cq_pz (nI 1) c z = decide (z = c) := by unfold cq_pz; rw [if_pos (by decide)]
  rw [e] at h1 h0
  exact ⟨fun k => h1 (decide_eq_true k), fun k => h0 (decide_eq_false k)⟩
theorem cq_q2 {post : Int32 → Prop} {c z : Int32} (h1 : cq_pz (nI 2) c z = true → post 1) (h0 : cq_pz (nI 2) c z = false → post 0) : (z = c → post 0) ∧ (¬ z = c → post 1) := by
  have e : cq_pz (nI 2) c z = decide (¬ z = c) := by unfold cq_pz; rw [if_neg (by decide), if_pos (by decide)]
  rw [e] at h1 h0
  exact ⟨fun k => h0 (decide_eq_false (fun n => n k)), fun k => h1 (decide_eq_true k)⟩
theorem cq_q3 {post : Int32 → Prop} {c z : Int32} (h1 : cq_pz (nI 3) c z = true → post 1) (h0 : cq_pz (nI 3) c z = false → post 0) : (c ≤ z → post 0) ∧ (¬ c ≤ z → post 1) := by
  have e : cq_pz (nI 3) c z = decide (z < c) := by unfold cq_pz; rw [if_neg (by decide), if_neg (by decide), if_pos (by decide)]
  rw [e] at h1 h0
  exact ⟨fun k => h0 (decide_eq_false (Int32.not_lt.mpr k)), fun k => h1 (decide_eq_true (Int32.not_le.mp k))⟩
theorem cq_q4 {post : Int32 → Prop} {c z : Int32} (h1 : cq_pz (nI 4) c z = true → post 1) (h0 : cq_pz (nI 4) c z = false → post 0) : (z ≤ c → post 0) ∧ (¬ z ≤ c → post 1) := by
  have e : cq_pz (nI 4) c z = decide (c < z) := by unfold cq_pz; rw [if_neg (by decide), if_neg (by decide), if_neg (by decide), if_pos (by decide)]
  rw [e] at h1 h0
  exact ⟨fun k => h0 (decide_eq_false (Int32.not_lt.mpr k)), fun k => h1 (decide_eq_true (Int32.not_le.mp k))⟩
theorem x_p30 {post : Int32 → Prop} {cp ph nw jn pj ag ac op bc nc rc oc : Int32} {wk ws fo ff fc hd ts ks vs ba na ra oa : Nat → Int32} {s o : Nat} {z : Int32} (hs : s < 2) (ho : o < 5) (hf : fo s = nI o) (h1 : cq_pz (fo s) (fc s) z = true → post 1) (h0 : cq_pz (fo s) (fc s) z = false → post 0) : wX_passes_30 post (nI s) z cp ph nw jn pj ag ac op bc nc rc oc wk ws fo ff fc hd ts ks vs ba na ra oa := by
  have c1 : (nI s).toNatClampNeg = s := nI_clamp (by omega)
  have w1 : vp_in (nI s) 2 := vp_in_nI hs (by omega)
  rw [hf] at h1 h0
  unfold wX_passes_30
  rw [c1, hf]
  refine ⟨w1, nm_e ⟨w1, nm_e ?_⟩⟩
  match o, ho with
  | 0, _ => exact br_t (by decide) (cq_q0 h1)
  | 1, _ => exact br_f (by decide) (br_f (by decide) (br_t (by decide) (cq_q1 h1 h0)))
  | 2, _ => exact br_f (by decide) (br_f (by decide) (br_f (by decide) (br_t (by decide) (cq_q2 h1 h0))))
  | 3, _ => exact br_f (by decide) (br_f (by decide) (br_f (by decide) (br_f (by decide) (br_t (by decide) (cq_q3 h1 h0)))))
  | 4, _ => exact br_f (by decide) (br_f (by decide) (br_f (by decide) (br_f (by decide) (br_f (by decide) (br_t (by decide) (cq_q4 h1 h0))))))
theorem x_passes {post : Int32 → Prop} {cp ph nw jn pj ag ac op bc nc rc oc : Int32} {wk ws fo ff fc hd ts ks vs ba na ra oa : Nat → Int32} {s i o p : Nat} (hp : s * 12 + i = p) (hs : s < 2) (hi : p < 24) (ho : o < 5) (hf : fo s = nI o) (h1 : cq_ps (fo s) (ff s) (fc s) (ks p) (vs p) = true → post 1) (h0 : cq_ps (fo s) (ff s) (fc s) (ks p) (vs p) = false → post 0) : wpX_passes post (cp, ph, nw, jn, pj, ag, ac, op, bc, nc, rc, oc, wk, ws, fo, ff, fc, hd, ts, ks, vs, ba, na, ra, oa) (nI s) (nI i) := by
  subst hp
  have c1 : (nI (s * 12 + i)).toNatClampNeg = s * 12 + i := nI_clamp (by omega)
  have c2 : (nI s).toNatClampNeg = s := nI_clamp (by omega)
  have w1 : vp_in (nI (s * 12 + i)) 24 := vp_in_nI hi (by omega)
  have w2 : vp_in (nI s) 2 := vp_in_nI hs (by omega)
  unfold wpX_passes
  dsimp only
  refine x_pl ⟨w2, ?_⟩
  rw [c1, c2]
  unfold cq_ps at h1 h0
  by_cases e : ff s = 0
  · rw [if_pos e] at h1 h0
    exact br_t e ⟨w1, x_p30 hs ho hf h1 h0⟩
  · rw [if_neg e] at h1 h0
    exact br_f e ⟨w1, x_p30 hs ho hf h1 h0⟩
theorem x_add {post : SX → Prop} {cp ph nw jn pj ag ac op nc rc oc : Int32} {wk ws fo ff fc hd ts ks vs ba na ra oa : Nat → Int32} {n a b c : Nat} (hn : n < 144) (ha : a < 16) (hb : b < 65536) (hc : c < 256) (h : post (cp, ph, nw, jn, pj, ag, ac, op, nI (n + 1), nc, rc, oc, wk, ws, fo, ff, fc, hd, ts, ks, vs, upd ba n (nI (cq_pk a b c)), na, ra, oa)) : wpX_addBaseRow post (cp, ph, nw, jn, pj, ag, ac, op, nI n, nc, rc, oc, wk, ws, fo, ff, fc, hd, ts, ks, vs, ba, na, ra, oa) (nI a) (nI b) (nI c) := by
  have c1 : (nI n).toNatClampNeg = n := nI_clamp (by omega)
  unfold wpX_addBaseRow wpX_packRow
  dsimp only
  rw [cq_pack ha hb hc, c1]
  exact ⟨vp_in_nI hn (by omega), nm_e (nm_r (nI_1 n) h)⟩
theorem x_joinL {post : SX → Prop} {cp ph nw jn pj ag ac op nc rc oc : Int32} {wk ws fo ff fc hd ts ks vs na ra oa : Nat → Int32} {K V : Nat → Nat} {q : Nat → Bool} {i h1 o : Nat} (hK : ∀ j, ks j = nI (K j) ∧ K j < 16) (hV : ∀ j, vs j = nI (V j) ∧ V j < 256) (hh : hd 1 = nI h1) (h12 : h1 ≤ 12) (ho : o < 5) (hf : fo 1 = nI o) (hq : ∀ j, cq_ps (fo 1) (ff 1) (fc 1) (ks (12 + j)) (vs (12 + j)) = q j) {L : List Nat} (hL : L.length + 12 ≤ 144)
    (k : ∀ ba', cq_S (cq_X ba') 0 (L ++ cq_in K V q i h1) → post (cp, ph, nw, jn, pj, ag, ac, op, nI (L ++ cq_in K V q i h1).length, nc, rc, oc, wk, ws, fo, ff, fc, hd, ts, ks, vs, ba', na, ra, oa)) :
    ∀ (d j n : Nat) (ba : Nat → Int32), j + d = h1 → d < n → cq_S (cq_X ba) 0 (L ++ cq_in K V q i j) → wX_joinWithS1_2 post (nI (K i)) (nI (V i)) n (nI j) cp ph nw jn pj ag ac op (nI (L ++ cq_in K V q i j).length) nc rc oc wk ws fo ff fc hd ts ks vs ba na ra oa := by
  intro d
  induction d with
  | zero =>
    intro j n ba hj hn hS
    obtain ⟨n, rfl⟩ : ∃ m, n = m + 1 := ⟨n - 1, by omega⟩
    have hj' : j = h1 := by omega
    subst hj'
    rw [wX_joinWithS1_2]
    exact br_t (by rw [hh]; exact nI_le (Nat.le_refl _) (by omega)) (k ba hS)
  | succ d ih =>
    intro j n ba hj hn hS
    obtain ⟨n, rfl⟩ : ∃ m, n = m + 1 := ⟨n - 1, by omega⟩
    have hlt : ¬ hd 1 ≤ nI j := by rw [hh]; exact nI_ge (by omega) (by omega)
    have c1 : (nI (12 + j)).toNatClampNeg = 12 + j := nI_clamp (by omega)
    have w1 : vp_in (nI (12 + j)) 24 := vp_in_nI (by omega) (by omega)
    have b1 := (hK (12 + j)).2
    have b2 := (hK i).2
    have b3 := (hV i).2
    have b4 := (hV (12 + j)).2
    have hl := cq_inl K V q i j
    rw [wX_joinWithS1_2]
    refine br_f hlt (x_pl1 ⟨w1, ?_⟩)
    rw [c1]
    by_cases e : K (12 + j) = K i
    · refine br_t (by rw [(hK (12 + j)).1, e]) ?_
      refine x_passes (s := 1) (p := 12 + j) (by omega) (by omega) (by omega) ho hf (fun hp => ?_) (fun hp => ?_)
      · have ein : cq_in K V q i (j + 1) = cq_in K V q i j ++ [cq_pk (K i) (V i) (V (12 + j))] := by
          rw [cq_in, if_pos ⟨e, (hq j).symm.trans hp⟩]
        have el : (L ++ cq_in K V q i (j + 1)).length = (L ++ cq_in K V q i j).length + 1 := by
          rw [ein]; simp only [List.length_append, List.length_singleton]; omega
        have H := ih (j + 1) n (upd ba (L ++ cq_in K V q i j).length (nI (cq_pk (K i) (V i) (V (12 + j))))) (by omega) (by omega) (by rw [ein, ← List.append_assoc]; exact cq_Xapp hS)
        rw [el] at H
        refine br_f (by decide) ⟨w1, ?_⟩
        rw [(hV (12 + j)).1]
        exact x_add (by rw [List.length_append]; omega) b2 (by omega) b4 (nm_r (nI_1 j) H)
      · have ein : cq_in K V q i (j + 1) = cq_in K V q i j := by
          rw [cq_in, if_neg (fun z => by have := (hq j).symm.trans hp; rw [z.2] at this; exact absurd this (by decide))]
        have H := ih (j + 1) n ba (by omega) (by omega) (by rw [ein]; exact hS)
        rw [ein] at H
        exact br_t rfl (nm_r (nI_1 j) H)
    · have ein : cq_in K V q i (j + 1) = cq_in K V q i j := by
        rw [cq_in, if_neg (fun z => e z.1)]
      have H := ih (j + 1) n ba (by omega) (by omega) (by rw [ein]; exact hS)
      rw [ein] at H
      refine br_f ?_ (nm_r (nI_1 j) H)
      rw [(hK (12 + j)).1, nI_eq (by omega) (by omega)]
      exact e
theorem x_join {post : SX → Prop} {cp ph nw jn pj ag ac op nc rc oc : Int32} {wk ws fo ff fc hd ts ks vs ba na ra oa : Nat → Int32} {K V : Nat → Nat} {q : Nat → Bool} {i h1 o : Nat} (hK : ∀ j, ks j = nI (K j) ∧ K j < 16) (hV : ∀ j, vs j = nI (V j) ∧ V j < 256) (hh : hd 1 = nI h1) (h12 : h1 ≤ 12) (ho : o < 5) (hf : fo 1 = nI o) (hq : ∀ j, cq_ps (fo 1) (ff 1) (fc 1) (ks (12 + j)) (vs (12 + j)) = q j) {L : List Nat} (hL : L.length + 12 ≤ 144) (hS : cq_S (cq_X ba) 0 L)
    (k : ∀ ba', cq_S (cq_X ba') 0 (L ++ cq_in K V q i h1) → post (cp, ph, nw, jn, pj, ag, ac, op, nI (L ++ cq_in K V q i h1).length, nc, rc, oc, wk, ws, fo, ff, fc, hd, ts, ks, vs, ba', na, ra, oa)) :
    wpX_joinWithS1 post (cp, ph, nw, jn, pj, ag, ac, op, nI L.length, nc, rc, oc, wk, ws, fo, ff, fc, hd, ts, ks, vs, ba, na, ra, oa) (nI (K i)) (nI (V i)) := by
  have e : L ++ cq_in K V q i 0 = L := by rw [cq_in, List.append_nil]
  have H := x_joinL (post := post) (cp := cp) (ph := ph) (nw := nw) (jn := jn) (pj := pj) (ag := ag) (ac := ac) (op := op) (nc := nc) (rc := rc) (oc := oc) (wk := wk) (ws := ws) (na := na) (ra := ra) (oa := oa) hK hV hh h12 ho hf hq hL k h1 0 (h1 + 1) ba (by omega) (by omega) (by rw [e]; exact hS)
  rw [e] at H
  unfold wpX_joinWithS1
  exact ⟨h1 + 1, H⟩
theorem x_colL {post : SX → Prop} {cp ph nw jn pj ag ac op nc rc oc : Int32} {wk ws fo ff fc hd ts ks vs na ra oa : Nat → Int32} {K V : Nat → Nat} {p q : Nat → Bool} {jb : Bool} {h0 h1 o o' : Nat} (hK : ∀ j, ks j = nI (K j) ∧ K j < 16) (hV : ∀ j, vs j = nI (V j) ∧ V j < 256) (hh0 : hd 0 = nI h0) (h012 : h0 ≤ 12) (hh : hd 1 = nI h1) (h12 : h1 ≤ 12) (ho : o < 5) (hf : fo 1 = nI o) (ho' : o' < 5) (hf' : fo 0 = nI o') (hp : ∀ j, cq_ps (fo 0) (ff 0) (fc 0) (ks j) (vs j) = p j) (hq : ∀ j, cq_ps (fo 1) (ff 1) (fc 1) (ks (12 + j)) (vs (12 + j)) = q j) (hj0 : jn = 0 → jb = false) (hj1 : ¬ jn = 0 → jb = true)
    (k : ∀ ba', cq_S (cq_X ba') 0 (cq_bs jb K V p q h1 h0) → post (cp, ph, nw, jn, pj, ag, ac, op, nI (cq_bs jb K V p q h1 h0).length, nc, rc, oc, wk, ws, fo, ff, fc, hd, ts, ks, vs, ba', na, ra, oa)) :
    ∀ (d i n : Nat) (ba : Nat → Int32), i + d = h0 → d < n → cq_S (cq_X ba) 0 (cq_bs jb K V p q h1 i) → wX_collectBaseRows_7 post n (nI i) cp ph nw jn pj ag ac op (nI (cq_bs jb K V p q h1 i).length) nc rc oc wk ws fo ff fc hd ts ks vs ba na ra oa := by
  intro d
  induction d with
  | zero =>
    intro i n ba hi hn hS
    obtain ⟨n, rfl⟩ : ∃ m, n = m + 1 := ⟨n - 1, by omega⟩
    have hi' : i = h0 := by omega
    subst hi'
    rw [wX_collectBaseRows_7]
    exact br_t (by rw [hh0]; exact nI_le (Nat.le_refl _) (by omega)) (k ba hS)
  | succ d ih =>
    intro i n ba hi hn hS
    obtain ⟨n, rfl⟩ : ∃ m, n = m + 1 := ⟨n - 1, by omega⟩
    have hlt : ¬ hd 0 ≤ nI i := by rw [hh0]; exact nI_ge (by omega) (by omega)
    have c1 : (nI i).toNatClampNeg = i := nI_clamp (by omega)
    have w1 : vp_in (nI i) 24 := vp_in_nI (by omega) (by omega)
    have b2 := (hK i).2
    have b3 := (hV i).2
    have hl := cq_bsl jb K V p q h12 i
    rw [wX_collectBaseRows_7]
    refine br_f hlt (x_passes (s := 0) (p := i) (by omega) (by omega) (by omega) ho' hf' (fun hpt => ?_) (fun hpf => ?_))
    · have hpi : p i = true := (hp i).symm.trans hpt
      refine br_f (by decide) (x_pl0 ?_)
      by_cases ej : jn = 0
      · have eb : cq_bs jb K V p q h1 (i + 1) = cq_bs jb K V p q h1 i ++ [cq_pk (K i) (V i) 0] := by
          rw [cq_bs, cq_rw, if_pos hpi, hj0 ej, if_neg (by decide)]
        have el : (cq_bs jb K V p q h1 (i + 1)).length = (cq_bs jb K V p q h1 i).length + 1 := by
          rw [eb, List.length_append, List.length_singleton]
        have H := ih (i + 1) n (upd ba (cq_bs jb K V p q h1 i).length (nI (cq_pk (K i) (V i) 0))) (by omega) (by omega) (by rw [eb]; exact cq_Xapp hS)
        rw [el] at H
        refine br_t ej ⟨w1, w1, ?_⟩
        rw [c1, (hK i).1, (hV i).1]
        exact x_add (c := 0) (by omega) b2 (by omega) (by omega) (nm_r (nI_1 i) H)
      · have eb : cq_bs jb K V p q h1 (i + 1) = cq_bs jb K V p q h1 i ++ cq_in K V q i h1 := by
          rw [cq_bs, cq_rw, if_pos hpi, hj1 ej, if_pos rfl]
        refine br_f ej ⟨w1, w1, ?_⟩
        rw [c1, (hK i).1, (hV i).1]
        refine x_join hK hV hh h12 ho hf hq (by omega) hS (fun ba' hS' => nm_r (nI_1 i) ?_)
        have H := ih (i + 1) n ba' (by omega) (by omega) (by rw [eb]; exact hS')
        rw [eb] at H
        exact H
    · have hpi : p i = false := (hp i).symm.trans hpf
      have eb : cq_bs jb K V p q h1 (i + 1) = cq_bs jb K V p q h1 i := by
        rw [cq_bs, cq_rw, if_neg (by rw [hpi]; decide), List.append_nil]
      have H := ih (i + 1) n ba (by omega) (by omega) (by rw [eb]; exact hS)
      rw [eb] at H
      exact br_t rfl (nm_r (nI_1 i) H)
theorem x_col {post : SX → Prop} {cp ph nw jn pj ag ac op bc nc rc oc : Int32} {wk ws fo ff fc hd ts ks vs ba na ra oa : Nat → Int32} {K V : Nat → Nat} {p q : Nat → Bool} {jb : Bool} {h0 h1 o o' : Nat} (hK : ∀ j, ks j = nI (K j) ∧ K j < 16) (hV : ∀ j, vs j = nI (V j) ∧ V j < 256) (hh0 : hd 0 = nI h0) (h012 : h0 ≤ 12) (hh : hd 1 = nI h1) (h12 : h1 ≤ 12) (ho : o < 5) (hf : fo 1 = nI o) (ho' : o' < 5) (hf' : fo 0 = nI o') (hp : ∀ j, cq_ps (fo 0) (ff 0) (fc 0) (ks j) (vs j) = p j) (hq : ∀ j, cq_ps (fo 1) (ff 1) (fc 1) (ks (12 + j)) (vs (12 + j)) = q j) (hj0 : jn = 0 → jb = false) (hj1 : ¬ jn = 0 → jb = true)
    (k : ∀ ba', cq_S (cq_X ba') 0 (cq_bs jb K V p q h1 h0) → post (cp, ph, nw, jn, pj, ag, ac, op, nI (cq_bs jb K V p q h1 h0).length, nc, rc, oc, wk, ws, fo, ff, fc, hd, ts, ks, vs, ba', na, ra, oa)) : wpX_collectBaseRows post (cp, ph, nw, jn, pj, ag, ac, op, bc, nc, rc, oc, wk, ws, fo, ff, fc, hd, ts, ks, vs, ba, na, ra, oa) := by
  have H := x_colL (post := post) (cp := cp) (ph := ph) (nw := nw) (jn := jn) (pj := pj) (ag := ag) (ac := ac) (op := op) (nc := nc) (rc := rc) (oc := oc) (wk := wk) (ws := ws) (na := na) (ra := ra) (oa := oa) hK hV hh0 h012 hh h12 ho hf ho' hf' hp hq hj0 hj1 k h0 0 (h0 + 1) ba (by omega) (by omega) (cq_nil _ _)
  unfold wpX_collectBaseRows
  exact ⟨h0 + 1, H⟩
