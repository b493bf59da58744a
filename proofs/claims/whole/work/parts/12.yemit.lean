/-! the reference: counts, copies, surplus, expiry -/
theorem cq_ek {a b : Nat} {A B : Prop} (ha : a < 2 ^ 31) (hb : b < 2 ^ 31) (f : a = b → A) (g : ¬ a = b → B) : (nI a = nI b → A) ∧ (¬ nI a = nI b → B) := by
  rw [nI_eq ha hb]
  exact ⟨f, g⟩
theorem y_cntL {post : Int32 → Prop} {cp ph nw jn pj ag ac op : Int32} {wk ws fo ff fc hd ts ks vs rs ct : Nat → Int32} {t lim x : Nat} {L : List Nat} (ht : t < 4) (hlim : lim ≤ L.length) (hl : L.length ≤ 144) (hY : cq_S (cq_Y rs) (t * 144) L) (hb : ∀ y, y ∈ L → y < 268435456) (bx : x < 268435456) (h : post (nI ((L.take lim).count x))) :
    ∀ (d i n : Nat), i + d = lim → d < n → wY_countEq_6 post (nI t) (nI lim) (nI (cq_cl 0 x)) (nI (cq_cl 1 x)) (nI (cq_cl 2 x)) cp ph nw jn pj ag ac op wk ws fo ff fc hd ts ks vs rs ct n (nI ((L.take i).count x)) (nI i) := by
  intro d
  induction d with
  | zero =>
    intro i n hi hn
    obtain ⟨n, rfl⟩ : ∃ m, n = m + 1 := ⟨n - 1, by omega⟩
    have hi' : i = lim := by omega
    subst hi'
    rw [wY_countEq_6]
    exact br_t (nI_le (Nat.le_refl _) (by omega)) h
  | succ d ih =>
    intro i n hi hn
    obtain ⟨n, rfl⟩ : ∃ m, n = m + 1 := ⟨n - 1, by omega⟩
    have hy := hY i (by omega)
    have by' := hb _ (cq_gm (L := L) (i := i) (by omega))
    have b0 := cq_bb by' (c := 0) (by decide)
    have b1 := cq_bb by' (c := 1) (by decide)
    have b2 := cq_bb by' (c := 2) (by decide)
    have d0 := cq_bb bx (c := 0) (by decide)
    have d1 := cq_bb bx (c := 1) (by decide)
    have d2 := cq_bb bx (c := 2) (by decide)
    have H := ih (i + 1) n (by omega) (by omega)
    rw [cq_tk (by omega), cq_cs] at H
    have no : ¬ L.getD i 0 = x → wY_countEq_6 post (nI t) (nI lim) (nI (cq_cl 0 x)) (nI (cq_cl 1 x)) (nI (cq_cl 2 x)) cp ph nw jn pj ag ac op wk ws fo ff fc hd ts ks vs rs ct n (nI ((L.take i).count x)) (nI (i + 1)) := by
      intro ne
      rw [if_neg ne] at H
      exact H
    rw [wY_countEq_6]
    refine br_f (nI_ge (by omega) (by omega)) (br_f (nI_ge (b := 144) (by omega) (by decide)) ?_)
    refine y_at (c := 0) ⟨vp_in_nI (by omega) (by omega), ?_⟩
    rw [nI_clamp (by omega), cq_Yc hy (c := 0) (by decide)]
    refine cq_ek (by omega) (by omega) (fun e0 => ?_) (fun e => nm_r (nI_1 i) (no (fun z => e (by rw [z]))))
    refine y_at (c := 1) ⟨vp_in_nI (by omega) (by omega), ?_⟩
    rw [nI_clamp (by omega), cq_Yc hy (c := 1) (by decide)]
    refine cq_ek (by omega) (by omega) (fun e1 => ?_) (fun e => nm_r (nI_1 i) (no (fun z => e (by rw [z]))))
    refine y_at (c := 2) ⟨vp_in_nI (by omega) (by omega), ?_⟩
    rw [nI_clamp (by omega), cq_Yc hy (c := 2) (by decide)]
    refine cq_ek (by omega) (by omega) (fun e2 => ?_) (fun e => nm_r (nI_1 i) (no (fun z => e (by rw [z]))))
    rw [if_pos (cq_eq e0 e1 e2)] at H
    exact nm_r (nI_1 _) (nm_r (nI_1 i) H)
theorem y_cnt {post : Int32 → Prop} {cp ph nw jn pj ag ac op : Int32} {wk ws fo ff fc hd ts ks vs rs ct : Nat → Int32} {t lim x : Nat} {L : List Nat} (ht : t < 4) (hlim : lim ≤ L.length) (hl : L.length ≤ 144) (hY : cq_S (cq_Y rs) (t * 144) L) (hb : ∀ y, y ∈ L → y < 268435456) (bx : x < 268435456) (h : post (nI ((L.take lim).count x))) : wpY_countEq post (cp, ph, nw, jn, pj, ag, ac, op, wk, ws, fo, ff, fc, hd, ts, ks, vs, rs, ct) (nI t) (nI lim) (nI (cq_cl 0 x)) (nI (cq_cl 1 x)) (nI (cq_cl 2 x)) := by
  unfold wpY_countEq
  exact ⟨lim + 1, y_cntL ht hlim hl hY hb bx h lim 0 (lim + 1) (by omega) (by omega)⟩
theorem y_copL {post : SY → Prop} {cp ph nw jn pj ag ac op : Int32} {wk ws fo ff fc hd ts ks vs rs ct : Nat → Int32} {f t : Nat} {L : List Nat} (hf : f < 4) (ht : t < 4) (hne : f ≠ t) (h : cq_ar rs ct f L)
    (K : ∀ rs' ct', cq_ar rs' ct' t L → cq_pv t rs ct rs' ct' → post (cp, ph, nw, jn, pj, ag, ac, op, wk, ws, fo, ff, fc, hd, ts, ks, vs, rs', ct')) :
    ∀ (d i n : Nat) (rs' ct' : Nat → Int32), i + d = L.length → d < n → cq_ar rs' ct' t (L.take i) → cq_pv t rs ct rs' ct' → wY_copyArea_9 post (nI f) (nI t) n (nI i) cp ph nw jn pj ag ac op wk ws fo ff fc hd ts ks vs rs' ct' := by
  have c1 : (nI f).toNatClampNeg = f := nI_clamp (by omega)
  have w1 : vp_in (nI f) 4 := vp_in_nI hf (by omega)
  have hl := h.2.2
  intro d
  induction d with
  | zero =>
    intro i n rs' ct' hi hn ha hv
    obtain ⟨n, rfl⟩ : ∃ m, n = m + 1 := ⟨n - 1, by omega⟩
    have hi' : i = L.length := by omega
    subst hi'
    rw [List.take_length] at ha
    rw [wY_copyArea_9]
    refine ⟨w1, ?_⟩
    rw [c1, (hv f L hne h).2.1]
    exact br_t (nI_le (Nat.le_refl _) (by omega)) (K rs' ct' ha hv)
  | succ d ih =>
    intro i n rs' ct' hi hn ha hv
    obtain ⟨n, rfl⟩ : ∃ m, n = m + 1 := ⟨n - 1, by omega⟩
    have hF := hv f L hne h
    have hy := cq_arY hF (i := i) (by omega)
    have lt : (L.take i).length = i := by rw [List.length_take]; omega
    rw [wY_copyArea_9]
    refine ⟨w1, ?_⟩
    rw [c1, hF.2.1]
    refine br_f (nI_ge (by omega) (by omega)) ?_
    refine y_at (c := 0) ⟨vp_in_nI (by omega) (by omega), ?_⟩
    refine y_at (c := 1) ⟨vp_in_nI (by omega) (by omega), ?_⟩
    refine y_at (c := 2) ⟨vp_in_nI (by omega) (by omega), ?_⟩
    refine y_put (x := L.getD i 0) ht ha (by omega) (by rw [nI_clamp (by omega)]; exact cq_Yc hy (by decide)) (by rw [nI_clamp (by omega)]; exact cq_Yc hy (by decide)) (by rw [nI_clamp (by omega)]; exact cq_Yc hy (by decide)) (fun rs2 ct2 h2 v2 => nm_r (nI_1 i) ?_)
    rw [← cq_tk (by omega)] at h2
    exact ih (i + 1) n rs2 ct2 (by omega) (by omega) h2 (cq_pvt hv v2)
theorem y_cop {post : SY → Prop} {cp ph nw jn pj ag ac op : Int32} {wk ws fo ff fc hd ts ks vs rs ct : Nat → Int32} {f t : Nat} {L : List Nat} (hf : f < 4) (ht : t < 4) (hne : f ≠ t) (h : cq_ar rs ct f L)
    (K : ∀ rs' ct', cq_ar rs' ct' t L → cq_pv t rs ct rs' ct' → post (cp, ph, nw, jn, pj, ag, ac, op, wk, ws, fo, ff, fc, hd, ts, ks, vs, rs', ct')) : wpY_copyArea post (cp, ph, nw, jn, pj, ag, ac, op, wk, ws, fo, ff, fc, hd, ts, ks, vs, rs, ct) (nI f) (nI t) := by
  have c1 : (nI t).toNatClampNeg = t := nI_clamp (by omega)
  unfold wpY_copyArea
  dsimp only
  refine ⟨vp_in_nI ht (by omega), ?_⟩
  rw [c1]
  refine nm_e ⟨L.length + 1, ?_⟩
  exact y_copL hf ht hne h K L.length 0 (L.length + 1) rs (upd ct t 0) (by omega) (by omega) (by rw [List.take_zero]; exact cq_ar0) cq_pv0
theorem y_surL {post : SY → Prop} {cp ph nw jn pj ag ac op : Int32} {wk ws fo ff fc hd ts ks vs rs ct : Nat → Int32} {f g : Nat} {F O T : List Nat} (hf : f < 3) (hg : g < 3) (hF : cq_ar rs ct f F) (hO : cq_ar rs ct g O) (bF : ∀ y, y ∈ F → y < 268435456) (bO : ∀ y, y ∈ O → y < 268435456)
    (K : ∀ rs' ct', cq_ar rs' ct' 3 T → cq_pv 3 rs ct rs' ct' → post (cp, ph, nw, jn, pj, ag, ac, op, wk, ws, fo, ff, fc, hd, ts, ks, vs, rs', ct')) :
    ∀ (d i n : Nat) (rs' ct' : Nat → Int32) (D : List Nat), i + d = F.length → d < n → D.length ≤ i → cq_ar rs' ct' 3 D → cq_pv 3 rs ct rs' ct' → D ++ cq_su O (F.take i) (F.drop i) = T → wY_emitSurplus_2 post (nI f) (nI g) n (nI i) cp ph nw jn pj ag ac op wk ws fo ff fc hd ts ks vs rs' ct' := by
  have c1 : (nI f).toNatClampNeg = f := nI_clamp (by omega)
  have c2 : (nI g).toNatClampNeg = g := nI_clamp (by omega)
  have w1 : vp_in (nI f) 4 := vp_in_nI (by omega) (by omega)
  have w2 : vp_in (nI g) 4 := vp_in_nI (by omega) (by omega)
  have lF := hF.2.2
  have lO := hO.2.2
  intro d
  induction d with
  | zero =>
    intro i n rs' ct' D hi hn lD ha hv hT
    obtain ⟨n, rfl⟩ : ∃ m, n = m + 1 := ⟨n - 1, by omega⟩
    have hi' : i = F.length := by omega
    subst hi'
    rw [List.drop_length, cq_su, List.append_nil] at hT
    subst hT
    rw [wY_emitSurplus_2]
    refine ⟨w1, ?_⟩
    rw [c1, (hv f F (by omega) hF).2.1]
    exact br_t (nI_le (Nat.le_refl _) (by omega)) (K rs' ct' ha hv)
  | succ d ih =>
    intro i n rs' ct' D hi hn lD ha hv hT
    obtain ⟨n, rfl⟩ : ∃ m, n = m + 1 := ⟨n - 1, by omega⟩
    have hi1 : i < F.length := by omega
    have hF' := hv f F (by omega) hF
    have hO' := hv g O (by omega) hO
    have hy := cq_arY hF' (i := i) hi1
    have bx := bF _ (cq_gm hi1)
    have k1 := List.count_le_length (a := F.getD i 0) (l := F.take i)
    have k2 := List.count_le_length (a := F.getD i 0) (l := O)
    have lt : (F.take i).length = i := by rw [List.length_take]; omega
    rw [cq_dr hi1, cq_su, ← cq_tk hi1] at hT
    rw [wY_emitSurplus_2]
    refine ⟨w1, ?_⟩
    rw [c1, c2, hF'.2.1, hO'.2.1]
    refine br_f (nI_ge (by omega) (by omega)) ?_
    refine y_at (c := 0) ⟨vp_in_nI (by omega) (by omega), nm_r (e' := nI (cq_cl 0 (F.getD i 0))) (by rw [nI_clamp (by omega)]; exact cq_Yc hy (by decide)) ?_⟩
    refine y_at (c := 1) ⟨vp_in_nI (by omega) (by omega), nm_r (e' := nI (cq_cl 1 (F.getD i 0))) (by rw [nI_clamp (by omega)]; exact cq_Yc hy (by decide)) ?_⟩
    refine y_at (c := 2) ⟨vp_in_nI (by omega) (by omega), nm_r (e' := nI (cq_cl 2 (F.getD i 0))) (by rw [nI_clamp (by omega)]; exact cq_Yc hy (by decide)) ?_⟩
    refine y_cnt (L := F) (by omega) (by omega) lF hF'.1 bF bx ⟨w2, ?_⟩
    refine y_cnt (L := O) (by omega) (Nat.le_refl _) lO hO'.1 bO bx ?_
    rw [List.take_length]
    by_cases e : O.count (F.getD i 0) ≤ (F.take i).count (F.getD i 0)
    · rw [if_pos e, ← List.append_assoc] at hT
      refine br_f (nI_nlt e (by omega)) ?_
      exact y_put (t := 3) (x := F.getD i 0) (by omega) ha (by omega) rfl rfl rfl (fun rs2 ct2 h2 v2 => nm_r (nI_1 i) (ih (i + 1) n rs2 ct2 (D ++ [F.getD i 0]) (by omega) (by omega) (by rw [List.length_append, List.length_singleton]; omega) h2 (cq_pvt hv v2) hT))
    · rw [if_neg e, List.nil_append] at hT
      exact br_t (nI_lt (by omega) (by omega)) (nm_r (nI_1 i) (ih (i + 1) n rs' ct' D (by omega) (by omega) (by omega) ha hv hT))
theorem y_sur {post : SY → Prop} {cp ph nw jn pj ag ac op : Int32} {wk ws fo ff fc hd ts ks vs rs ct : Nat → Int32} {f g : Nat} {F O : List Nat} (hf : f < 3) (hg : g < 3) (hF : cq_ar rs ct f F) (hO : cq_ar rs ct g O) (h3 : cq_ar rs ct 3 []) (bF : ∀ y, y ∈ F → y < 268435456) (bO : ∀ y, y ∈ O → y < 268435456)
    (K : ∀ rs' ct', cq_ar rs' ct' 3 (cq_su O [] F) → cq_pv 3 rs ct rs' ct' → post (cp, ph, nw, jn, pj, ag, ac, op, wk, ws, fo, ff, fc, hd, ts, ks, vs, rs', ct')) : wpY_emitSurplus post (cp, ph, nw, jn, pj, ag, ac, op, wk, ws, fo, ff, fc, hd, ts, ks, vs, rs, ct) (nI f) (nI g) := by
  unfold wpY_emitSurplus
  refine ⟨F.length + 1, ?_⟩
  exact y_surL hf hg hF hO bF bO K F.length 0 (F.length + 1) rs ct [] (by omega) (by omega) (Nat.zero_le _) h3 cq_pvr (by rw [List.take_zero, List.drop_zero, List.nil_append])
theorem y_exL {post : SY → Prop} {cp ph nw jn pj ag ac op : Int32} {wk ws fo ff fc hd ts ks vs rs ct : Nat → Int32} {s h : Nat} {lim : Int32} (hs : s < 2) (hh : hd s = nI h) (h12 : h ≤ 12)
    (K : post (cp, ph, nw, jn, pj, ag, ac, op, wk, ws, fo, ff, fc, upd hd s (nI (cq_ex (s * 12) lim ts ks vs h).2.2.2), (cq_ex (s * 12) lim ts ks vs h).1, (cq_ex (s * 12) lim ts ks vs h).2.1, (cq_ex (s * 12) lim ts ks vs h).2.2.1, rs, ct)) :
    ∀ (d i n : Nat), i + d = h → d < n → wY_expire_28 post (nI s) lim cp ph nw jn pj ag ac op n (nI (cq_ex (s * 12) lim ts ks vs i).2.2.2) (nI i) wk ws fo ff fc hd ((cq_ex (s * 12) lim ts ks vs i).1) ((cq_ex (s * 12) lim ts ks vs i).2.1) ((cq_ex (s * 12) lim ts ks vs i).2.2.1) rs ct := by
  have c1 : (nI s).toNatClampNeg = s := nI_clamp (by omega)
  have w1 : vp_in (nI s) 2 := vp_in_nI hs (by omega)
  intro d
  induction d with
  | zero =>
    intro i n hi hn
    obtain ⟨n, rfl⟩ : ∃ m, n = m + 1 := ⟨n - 1, by omega⟩
    have hi' : i = h := by omega
    subst hi'
    rw [wY_expire_28]
    refine ⟨w1, ?_⟩
    rw [c1, hh]
    exact br_t (nI_le (Nat.le_refl _) (by omega)) ⟨w1, nm_e K⟩
  | succ d ih =>
    intro i n hi hn
    obtain ⟨n, rfl⟩ : ∃ m, n = m + 1 := ⟨n - 1, by omega⟩
    have kl := cq_exl (s * 12) lim ts ks vs i
    have c2 : (nI (s * 12 + i)).toNatClampNeg = s * 12 + i := nI_clamp (by omega)
    have w2 : vp_in (nI (s * 12 + i)) 24 := vp_in_nI (by omega) (by omega)
    have c3 : (nI (s * 12 + (cq_ex (s * 12) lim ts ks vs i).2.2.2)).toNatClampNeg = s * 12 + (cq_ex (s * 12) lim ts ks vs i).2.2.2 := nI_clamp (by omega)
    have w3 : vp_in (nI (s * 12 + (cq_ex (s * 12) lim ts ks vs i).2.2.2)) 24 := vp_in_nI (by omega) (by omega)
    have H := ih (i + 1) n (by omega) (by omega)
    rw [wY_expire_28]
    refine ⟨w1, ?_⟩
    rw [c1, hh]
    refine br_f (nI_ge (by omega) (by omega)) (br_f (nI_ge (b := 12) (by omega) (by decide)) (nm_r (cq_pl s i) ⟨w2, ?_⟩))
    rw [c2, cq_pl, c3]
    by_cases e : lim < (cq_ex (s * 12) lim ts ks vs i).1 (s * 12 + i)
    · rw [cq_ext e] at H
      exact br_f (Int32.not_le.mpr e) ⟨w2, w3, nm_e ⟨w2, w3, nm_e ⟨w2, w3, nm_e (nm_r (nI_1 _) (nm_r (nI_1 i) H))⟩⟩⟩
    · rw [cq_exf e] at H
      exact br_t (Int32.not_lt.mp e) (nm_r (nI_1 i) H)
theorem y_exp {post : SY → Prop} {cp ph nw jn pj ag ac op : Int32} {wk ws fo ff fc hd ts ks vs rs ct : Nat → Int32} {s h : Nat} (hs : s < 2) (hh : hd s = nI h) (h12 : h ≤ 12)
    (K : post (cp, ph, nw, jn, pj, ag, ac, op, wk, ws, fo, ff, fc, (cq_xp s wk ws nw (hd, ts, ks, vs)).1, (cq_xp s wk ws nw (hd, ts, ks, vs)).2.1, (cq_xp s wk ws nw (hd, ts, ks, vs)).2.2.1, (cq_xp s wk ws nw (hd, ts, ks, vs)).2.2.2, rs, ct)) : wpY_expire post (cp, ph, nw, jn, pj, ag, ac, op, wk, ws, fo, ff, fc, hd, ts, ks, vs, rs, ct) (nI s) := by
  have c1 : (nI s).toNatClampNeg = s := nI_clamp (by omega)
  have w1 : vp_in (nI s) 2 := vp_in_nI hs (by omega)
  have ch : (hd s).toNatClampNeg = h := by rw [hh]; exact nI_clamp (by omega)
  unfold wpY_expire
  dsimp only
  rw [c1]
  by_cases e : wk s = 1
  · unfold cq_xp at K
    rw [if_pos e] at K
    dsimp only at K
    rw [ch] at K
    refine ⟨w1, br_t e ⟨w1, nm_e ⟨h + 1, ?_⟩⟩⟩
    exact y_exL hs hh h12 K h 0 (h + 1) (by omega) (by omega)
  · unfold cq_xp at K
    rw [if_neg e] at K
    exact ⟨w1, br_f e K⟩
