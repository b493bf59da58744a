/-! the component: the difference of two sorted lists, by a merge -/
theorem x_ei_65 {post : SX → Prop} {J : _} {cp ph nw jn pj ag ac op bc nc rc : Int32} {wk ws fo ff fc hd ts ks vs ba na ra oa : Nat → Int32} {x2 x4 x5 : Int32} {i x D : Nat} (hi : i < 144) (hD : D < 144) (hx : na i = nI x) (h : J x5 (nI (i + 1)) (nI (D + 1)) wk ws fo ff fc hd ts ks vs ba na ra (upd oa D (nI x))) : wX_emitDifference__nextRows_relationRows_65 post J x2 x4 x5 (nI i) cp ph nw jn pj ag ac op bc nc rc (nI D) wk ws fo ff fc hd ts ks vs ba na ra oa := by
  have c1 : (nI i).toNatClampNeg = i := nI_clamp (by omega)
  have c2 : (nI D).toNatClampNeg = D := nI_clamp (by omega)
  unfold wX_emitDifference__nextRows_relationRows_65
  rw [c1, c2, hx]
  exact ⟨vp_in_nI hi (by omega), vp_in_nI hD (by omega), nm_e (nm_r (nI_1 D) (nm_r (nI_1 i) h))⟩
theorem x_ei_17 {post : SX → Prop} {J : _} {cp ph nw jn pj ag ac op bc nc rc : Int32} {wk ws fo ff fc hd ts ks vs ba na ra : Nat → Int32} {F O T D : List Nat} {oa : Nat → Int32} {i : Nat} (hF : cq_S (cq_X na) 0 F) (hO : cq_S (cq_X ra) 0 O) (lF : F.length ≤ 144) (lO : O.length ≤ 144) (bF : ∀ x, x ∈ F → x < 268435456) (bO : ∀ x, x ∈ O → x < 268435456) (hi : i < F.length) (lD : D.length ≤ i) (hD : cq_S (cq_X oa) 0 D)
    (K : ∀ (r' : Nat) (oa' : Nat → Int32) (D' : List Nat), r' ≤ O.length → D'.length ≤ i + 1 → cq_S (cq_X oa') 0 D' → D' ++ cq_md (F.drop (i + 1)) (O.drop r') = T → J (nI r') (nI (i + 1)) (nI D'.length) wk ws fo ff fc hd ts ks vs ba na ra oa') :
    ∀ (e r n : Nat), r + e = O.length → e < n → D ++ cq_md (F.drop i) (O.drop r) = T → wX_emitDifference__nextRows_relationRows_17 post J (nI F.length) (nI O.length) (nI i) cp ph nw jn pj ag ac op bc nc rc (nI D.length) wk ws fo ff fc hd ts ks vs ba na ra oa n (nI r) := by
  have ci : (nI i).toNatClampNeg = i := nI_clamp (by omega)
  have wi : vp_in (nI i) 144 := vp_in_nI (by omega) (by omega)
  have hx := cq_Xg hF hi
  have bx := bF _ (cq_gm hi)
  have emit : ∀ r : Nat, r ≤ O.length → D ++ (F.getD i 0 :: cq_md (F.drop (i + 1)) (O.drop r)) = T → wX_emitDifference__nextRows_relationRows_65 post J (nI F.length) (nI O.length) (nI r) (nI i) cp ph nw jn pj ag ac op bc nc rc (nI D.length) wk ws fo ff fc hd ts ks vs ba na ra oa := by
    intro r hr hT
    refine x_ei_65 (by omega) (by omega) hx ?_
    have H := K r (upd oa D.length (nI (F.getD i 0))) (D ++ [F.getD i 0]) hr (by rw [List.length_append, List.length_singleton]; omega) (cq_Xapp hD) (by rw [List.append_assoc]; exact hT)
    rw [List.length_append, List.length_singleton] at H
    exact H
  intro e
  induction e with
  | zero =>
    intro r n hr hn hT
    obtain ⟨n, rfl⟩ : ∃ m, n = m + 1 := ⟨n - 1, by omega⟩
    have hr' : r = O.length := by omega
    subst hr'
    have le : nI O.length ≤ nI O.length := nI_le (Nat.le_refl _) (by omega)
    rw [cq_dr hi, List.drop_length, cq_mdn] at hT
    rw [wX_emitDifference__nextRows_relationRows_17]
    refine br_t le ?_
    unfold wX_emitDifference__nextRows_relationRows_41
    exact br_t le (emit _ (Nat.le_refl _) (by rw [List.drop_length]; exact hT))
  | succ e ih =>
    intro r n hr hn hT
    obtain ⟨n, rfl⟩ : ∃ m, n = m + 1 := ⟨n - 1, by omega⟩
    have lt : ¬ nI O.length ≤ nI r := nI_ge (by omega) (by omega)
    have cr : (nI r).toNatClampNeg = r := nI_clamp (by omega)
    have wr : vp_in (nI r) 144 := vp_in_nI (by omega) (by omega)
    have ho := cq_Xg hO (i := r) (by omega)
    have bo := bO _ (cq_gm (L := O) (i := r) (by omega))
    have er := cq_dr (L := O) (i := r) (by omega)
    rw [wX_emitDifference__nextRows_relationRows_17]
    refine br_f lt ⟨wr, wi, ?_⟩
    unfold wX_emitDifference__nextRows_relationRows_41
    rw [ci, cr, hx, ho]
    rw [cq_dr hi, er] at hT
    rcases Nat.lt_trichotomy (O.getD r 0) (F.getD i 0) with h | h | h
    · refine br_f (nI_ge h (by omega)) (nm_r (nI_1 r) (ih (r + 1) n (by omega) (by omega) ?_))
      rw [cq_mdl h, ← cq_dr hi] at hT
      exact hT
    · refine br_t (nI_le (by omega) (by omega)) (br_f lt ⟨wr, wi, br_t (by rw [h]) (nm_r (nI_1 r) (nm_r (nI_1 i) (K (r + 1) oa D (by omega) (by omega) hD ?_)))⟩)
      rw [h, cq_mde] at hT
      exact hT
    · refine br_t (nI_le (by omega) (by omega)) (br_f lt ⟨wr, wi, br_f (by rw [nI_eq (by omega) (by omega)]; omega) (emit r (by omega) ?_)⟩)
      rw [cq_mdg h, ← er] at hT
      exact hT
theorem x_ei_11 {post : SX → Prop} {cp ph nw jn pj ag ac op bc nc rc : Int32} {wk ws fo ff fc hd ts ks vs ba na ra : Nat → Int32} {F O T : List Nat} (hF : cq_S (cq_X na) 0 F) (hO : cq_S (cq_X ra) 0 O) (lF : F.length ≤ 144) (lO : O.length ≤ 144) (bF : ∀ x, x ∈ F → x < 268435456) (bO : ∀ x, x ∈ O → x < 268435456)
    (K : ∀ oa', cq_S (cq_X oa') 0 T → post (cp, ph, nw, jn, pj, ag, ac, op, bc, nc, rc, nI T.length, wk, ws, fo, ff, fc, hd, ts, ks, vs, ba, na, ra, oa')) :
    ∀ (d i r n : Nat) (oa : Nat → Int32) (D : List Nat), i + d = F.length → d < n → r ≤ O.length → D.length ≤ i → cq_S (cq_X oa) 0 D → D ++ cq_md (F.drop i) (O.drop r) = T → wX_emitDifference__nextRows_relationRows_11 post (nI F.length) (nI O.length) cp ph nw jn pj ag ac op bc nc rc n (nI r) (nI i) (nI D.length) wk ws fo ff fc hd ts ks vs ba na ra oa := by
  intro d
  induction d with
  | zero =>
    intro i r n oa D hi hn hr lD hD hT
    obtain ⟨n, rfl⟩ : ∃ m, n = m + 1 := ⟨n - 1, by omega⟩
    have hi' : i = F.length := by omega
    subst hi'
    rw [List.drop_length, cq_md, List.append_nil] at hT
    subst hT
    rw [wX_emitDifference__nextRows_relationRows_11]
    exact br_t (nI_le (Nat.le_refl _) (by omega)) (K oa hD)
  | succ d ih =>
    intro i r n oa D hi hn hr lD hD hT
    obtain ⟨n, rfl⟩ : ∃ m, n = m + 1 := ⟨n - 1, by omega⟩
    rw [wX_emitDifference__nextRows_relationRows_11]
    refine br_f (nI_ge (by omega) (by omega)) ⟨O.length - r + 1, ?_⟩
    exact x_ei_17 (T := T) hF hO lF lO bF bO (by omega) lD hD (fun r' oa' D' h1 h2 h3 h4 => ih (i + 1) r' n oa' D' (by omega) (by omega) h1 h2 h3 h4) (O.length - r) r (O.length - r + 1) (by omega) (by omega) hT
theorem x_ei {post : SX → Prop} {cp ph nw jn pj ag ac op bc nc rc oc : Int32} {wk ws fo ff fc hd ts ks vs ba na ra oa : Nat → Int32} {F O : List Nat} (hF : cq_S (cq_X na) 0 F) (hO : cq_S (cq_X ra) 0 O) (lF : F.length ≤ 144) (lO : O.length ≤ 144) (bF : ∀ x, x ∈ F → x < 268435456) (bO : ∀ x, x ∈ O → x < 268435456)
    (K : ∀ oa', cq_S (cq_X oa') 0 (cq_md F O) → post (cp, ph, nw, jn, pj, ag, ac, op, bc, nc, rc, nI (cq_md F O).length, wk, ws, fo, ff, fc, hd, ts, ks, vs, ba, na, ra, oa')) : wpX_emitDifference__nextRows_relationRows post (cp, ph, nw, jn, pj, ag, ac, op, bc, nc, rc, oc, wk, ws, fo, ff, fc, hd, ts, ks, vs, ba, na, ra, oa) (nI F.length) (nI O.length) := by
  have H := x_ei_11 (post := post) (T := cq_md F O) hF hO lF lO bF bO K F.length 0 0 (F.length + 1) oa [] (by omega) (by omega) (by omega) (Nat.zero_le _) (cq_nil _ _) (by rw [List.drop_zero, List.drop_zero, List.nil_append])
  unfold wpX_emitDifference__nextRows_relationRows
  exact ⟨F.length + 1, H⟩
theorem x_ed_65 {post : SX → Prop} {J : _} {cp ph nw jn pj ag ac op bc nc rc : Int32} {wk ws fo ff fc hd ts ks vs ba na ra oa : Nat → Int32} {x2 x4 x5 : Int32} {i x D : Nat} (hi : i < 144) (hD : D < 144) (hx : ra i = nI x) (h : J x5 (nI (i + 1)) (nI (D + 1)) wk ws fo ff fc hd ts ks vs ba na ra (upd oa D (nI x))) : wX_emitDifference__relationRows_nextRows_65 post J x2 x4 x5 (nI i) cp ph nw jn pj ag ac op bc nc rc (nI D) wk ws fo ff fc hd ts ks vs ba na ra oa := by
  have c1 : (nI i).toNatClampNeg = i := nI_clamp (by omega)
  have c2 : (nI D).toNatClampNeg = D := nI_clamp (by omega)
  unfold wX_emitDifference__relationRows_nextRows_65
  rw [c1, c2, hx]
  exact ⟨vp_in_nI hi (by omega), vp_in_nI hD (by omega), nm_e (nm_r (nI_1 D) (nm_r (nI_1 i) h))⟩
theorem x_ed_17 {post : SX → Prop} {J : _} {cp ph nw jn pj ag ac op bc nc rc : Int32} {wk ws fo ff fc hd ts ks vs ba na ra : Nat → Int32} {F O T D : List Nat} {oa : Nat → Int32} {i : Nat} (hF : cq_S (cq_X ra) 0 F) (hO : cq_S (cq_X na) 0 O) (lF : F.length ≤ 144) (lO : O.length ≤ 144) (bF : ∀ x, x ∈ F → x < 268435456) (bO : ∀ x, x ∈ O → x < 268435456) (hi : i < F.length) (lD : D.length ≤ i) (hD : cq_S (cq_X oa) 0 D)
    (K : ∀ (r' : Nat) (oa' : Nat → Int32) (D' : List Nat), r' ≤ O.length → D'.length ≤ i + 1 → cq_S (cq_X oa') 0 D' → D' ++ cq_md (F.drop (i + 1)) (O.drop r') = T → J (nI r') (nI (i + 1)) (nI D'.length) wk ws fo ff fc hd ts ks vs ba na ra oa') :
    ∀ (e r n : Nat), r + e = O.length → e < n → D ++ cq_md (F.drop i) (O.drop r) = T → wX_emitDifference__relationRows_nextRows_17 post J (nI F.length) (nI O.length) (nI i) cp ph nw jn pj ag ac op bc nc rc (nI D.length) wk ws fo ff fc hd ts ks vs ba na ra oa n (nI r) := by
  have ci : (nI i).toNatClampNeg = i := nI_clamp (by omega)
  have wi : vp_in (nI i) 144 := vp_in_nI (by omega) (by omega)
  have hx := cq_Xg hF hi
  have bx := bF _ (cq_gm hi)
  have emit : ∀ r : Nat, r ≤ O.length → D ++ (F.getD i 0 :: cq_md (F.drop (i + 1)) (O.drop r)) = T → wX_emitDifference__relationRows_nextRows_65 post J (nI F.length) (nI O.length) (nI r) (nI i) cp ph nw jn pj ag ac op bc nc rc (nI D.length) wk ws fo ff fc hd ts ks vs ba na ra oa := by
    intro r hr hT
    refine x_ed_65 (by omega) (by omega) hx ?_
    have H := K r (upd oa D.length (nI (F.getD i 0))) (D ++ [F.getD i 0]) hr (by rw [List.length_append, List.length_singleton]; omega) (cq_Xapp hD) (by rw [List.append_assoc]; exact hT)
    rw [List.length_append, List.length_singleton] at H
    exact H
  intro e
  induction e with
  | zero =>
    intro r n hr hn hT
    obtain ⟨n, rfl⟩ : ∃ m, n = m + 1 := ⟨n - 1, by omega⟩
    have hr' : r = O.length := by omega
    subst hr'
    have le : nI O.length ≤ nI O.length := nI_le (Nat.le_refl _) (by omega)
    rw [cq_dr hi, List.drop_length, cq_mdn] at hT
    rw [wX_emitDifference__relationRows_nextRows_17]
    refine br_t le ?_
    unfold wX_emitDifference__relationRows_nextRows_41
    exact br_t le (emit _ (Nat.le_refl _) (by rw [List.drop_length]; exact hT))
  | succ e ih =>
    intro r n hr hn hT
    obtain ⟨n, rfl⟩ : ∃ m, n = m + 1 := ⟨n - 1, by omega⟩
    have lt : ¬ nI O.length ≤ nI r := nI_ge (by omega) (by omega)
    have cr : (nI r).toNatClampNeg = r := nI_clamp (by omega)
    have wr : vp_in (nI r) 144 := vp_in_nI (by omega) (by omega)
    have ho := cq_Xg hO (i := r) (by omega)
    have bo := bO _ (cq_gm (L := O) (i := r) (by omega))
    have er := cq_dr (L := O) (i := r) (by omega)
    rw [wX_emitDifference__relationRows_nextRows_17]
    refine br_f lt ⟨wr, wi, ?_⟩
    unfold wX_emitDifference__relationRows_nextRows_41
    rw [ci, cr, hx, ho]
    rw [cq_dr hi, er] at hT
    rcases Nat.lt_trichotomy (O.getD r 0) (F.getD i 0) with h | h | h
    · refine br_f (nI_ge h (by omega)) (nm_r (nI_1 r) (ih (r + 1) n (by omega) (by omega) ?_))
      rw [cq_mdl h, ← cq_dr hi] at hT
      exact hT
    · refine br_t (nI_le (by omega) (by omega)) (br_f lt ⟨wr, wi, br_t (by rw [h]) (nm_r (nI_1 r) (nm_r (nI_1 i) (K (r + 1) oa D (by omega) (by omega) hD ?_)))⟩)
      rw [h, cq_mde] at hT
      exact hT
    · refine br_t (nI_le (by omega) (by omega)) (br_f lt ⟨wr, wi, br_f (by rw [nI_eq (by omega) (by omega)]; omega) (emit r (by omega) ?_)⟩)
      rw [cq_mdg h, ← er] at hT
      exact hT
theorem x_ed_11 {post : SX → Prop} {cp ph nw jn pj ag ac op bc nc rc : Int32} {wk ws fo ff fc hd ts ks vs ba na ra : Nat → Int32} {F O T : List Nat} (hF : cq_S (cq_X ra) 0 F) (hO : cq_S (cq_X na) 0 O) (lF : F.length ≤ 144) (lO : O.length ≤ 144) (bF : ∀ x, x ∈ F → x < 268435456) (bO : ∀ x, x ∈ O → x < 268435456)
    (K : ∀ oa', cq_S (cq_X oa') 0 T → post (cp, ph, nw, jn, pj, ag, ac, op, bc, nc, rc, nI T.length, wk, ws, fo, ff, fc, hd, ts, ks, vs, ba, na, ra, oa')) :
    ∀ (d i r n : Nat) (oa : Nat → Int32) (D : List Nat), i + d = F.length → d < n → r ≤ O.length → D.length ≤ i → cq_S (cq_X oa) 0 D → D ++ cq_md (F.drop i) (O.drop r) = T → wX_emitDifference__relationRows_nextRows_11 post (nI F.length) (nI O.length) cp ph nw jn pj ag ac op bc nc rc n (nI r) (nI i) (nI D.length) wk ws fo ff fc hd ts ks vs ba na ra oa := by
  intro d
  induction d with
  | zero =>
    intro i r n oa D hi hn hr lD hD hT
    obtain ⟨n, rfl⟩ : ∃ m, n = m + 1 := ⟨n - 1, by omega⟩
    have hi' : i = F.length := by omega
    subst hi'
    rw [List.drop_length, cq_md, List.append_nil] at hT
    subst hT
    rw [wX_emitDifference__relationRows_nextRows_11]
    exact br_t (nI_le (Nat.le_refl _) (by omega)) (K oa hD)
  | succ d ih =>
    intro i r n oa D hi hn hr lD hD hT
    obtain ⟨n, rfl⟩ : ∃ m, n = m + 1 := ⟨n - 1, by omega⟩
    rw [wX_emitDifference__relationRows_nextRows_11]
    refine br_f (nI_ge (by omega) (by omega)) ⟨O.length - r + 1, ?_⟩
    exact x_ed_17 (T := T) hF hO lF lO bF bO (by omega) lD hD (fun r' oa' D' h1 h2 h3 h4 => ih (i + 1) r' n oa' D' (by omega) (by omega) h1 h2 h3 h4) (O.length - r) r (O.length - r + 1) (by omega) (by omega) hT
theorem x_ed {post : SX → Prop} {cp ph nw jn pj ag ac op bc nc rc oc : Int32} {wk ws fo ff fc hd ts ks vs ba na ra oa : Nat → Int32} {F O : List Nat} (hF : cq_S (cq_X ra) 0 F) (hO : cq_S (cq_X na) 0 O) (lF : F.length ≤ 144) (lO : O.length ≤ 144) (bF : ∀ x, x ∈ F → x < 268435456) (bO : ∀ x, x ∈ O → x < 268435456)
    (K : ∀ oa', cq_S (cq_X oa') 0 (cq_md F O) → post (cp, ph, nw, jn, pj, ag, ac, op, bc, nc, rc, nI (cq_md F O).length, wk, ws, fo, ff, fc, hd, ts, ks, vs, ba, na, ra, oa')) : wpX_emitDifference__relationRows_nextRows post (cp, ph, nw, jn, pj, ag, ac, op, bc, nc, rc, oc, wk, ws, fo, ff, fc, hd, ts, ks, vs, ba, na, ra, oa) (nI F.length) (nI O.length) := by
  have H := x_ed_11 (post := post) (T := cq_md F O) hF hO lF lO bF bO K F.length 0 0 (F.length + 1) oa [] (by omega) (by omega) (by omega) (Nat.zero_le _) (cq_nil _ _) (by rw [List.drop_zero, List.drop_zero, List.nil_append])
  unfold wpX_emitDifference__relationRows_nextRows
  exact ⟨F.length + 1, H⟩
