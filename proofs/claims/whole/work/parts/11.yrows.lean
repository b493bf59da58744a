/-! the reference: cells of areas, put, filters -/
theorem cq_atE (a i c : Nat) : ((nI a * 144) + nI i) * 3 + nI c = nI ((a * 144 + i) * 3 + c) := by
  rw [show (144 : Int32) = nI 144 from rfl, show (3 : Int32) = nI 3 from rfl, pk_mul, nI_add, pk_mul, nI_add]
theorem y_at {post : Int32 → Prop} {cp ph nw jn pj ag ac op : Int32} {wk ws fo ff fc hd ts ks vs rs ct : Nat → Int32} {a i c : Nat} (h : post (nI ((a * 144 + i) * 3 + c))) : wpY_at post (cp, ph, nw, jn, pj, ag, ac, op, wk, ws, fo, ff, fc, hd, ts, ks, vs, rs, ct) (nI a) (nI i) (nI c) := by
  unfold wpY_at
  dsimp only
  rw [cq_atE]
  exact h
theorem y_put {post : SY → Prop} {cp ph nw jn pj ag ac op : Int32} {wk ws fo ff fc hd ts ks vs rs ct : Nat → Int32} {t x : Nat} {L : List Nat} {c0 c1 c2 : Int32} (ht : t < 4) (h : cq_ar rs ct t L) (hl : L.length < 144) (e0 : c0 = nI (cq_cl 0 x)) (e1 : c1 = nI (cq_cl 1 x)) (e2 : c2 = nI (cq_cl 2 x))
    (K : ∀ rs' ct', cq_ar rs' ct' t (L ++ [x]) → cq_pv t rs ct rs' ct' → post (cp, ph, nw, jn, pj, ag, ac, op, wk, ws, fo, ff, fc, hd, ts, ks, vs, rs', ct')) : wpY_put post (cp, ph, nw, jn, pj, ag, ac, op, wk, ws, fo, ff, fc, hd, ts, ks, vs, rs, ct) (nI t) c0 c1 c2 := by
  have ct1 : (nI t).toNatClampNeg = t := nI_clamp (by omega)
  have w1 : vp_in (nI t) 4 := vp_in_nI ht (by omega)
  unfold wpY_put
  dsimp only
  refine ⟨w1, ?_⟩
  rw [ct1]
  refine nm_r h.2.1 (br_t (nI_lt (b := 144) hl (by decide)) ?_)
  refine y_at (c := 0) ⟨vp_in_nI (by omega) (by omega), nm_r (e' := upd rs ((t * 144 + L.length) * 3) (nI (cq_cl 0 x))) (by rw [nI_clamp (by omega), e0, Nat.add_zero]) ?_⟩
  refine y_at (c := 1) ⟨vp_in_nI (by omega) (by omega), nm_r (e' := upd (upd rs ((t * 144 + L.length) * 3) (nI (cq_cl 0 x))) ((t * 144 + L.length) * 3 + 1) (nI (cq_cl 1 x))) (by rw [nI_clamp (by omega), e1]) ?_⟩
  refine y_at (c := 2) ⟨vp_in_nI (by omega) (by omega), nm_r (e' := cq_y3 rs (t * 144 + L.length) x) (by rw [nI_clamp (by omega), e2]; rfl) ?_⟩
  exact ⟨w1, nm_r (by rw [nI_1]) (K _ _ (cq_arP h hl) (cq_pvP hl))⟩
theorem y_p47 {post : Int32 → Prop} {cp ph nw jn pj ag ac op : Int32} {wk ws fo ff fc hd ts ks vs rs ct : Nat → Int32} {s o : Nat} {z : Int32} (hs : s < 2) (ho1 : 1 ≤ o) (ho : o < 5) (h1 : cq_pz (nI o) (fc s) z = true → post 1) (h0 : cq_pz (nI o) (fc s) z = false → post 0) : wY_pass_47 post (nI s) (nI o) z cp ph nw jn pj ag ac op wk ws fo ff fc hd ts ks vs rs ct := by
  have c1 : (nI s).toNatClampNeg = s := nI_clamp (by omega)
  have w1 : vp_in (nI s) 2 := vp_in_nI hs (by omega)
  unfold wY_pass_47
  rw [c1]
  refine ⟨w1, nm_e ?_⟩
  have hm : o = 1 ∨ o = 2 ∨ o = 3 ∨ o = 4 := by omega
  rcases hm with rfl | rfl | rfl | rfl
  · exact br_t (by decide) (cq_q1 h1 h0)
  · exact br_f (by decide) (br_t (by decide) (cq_q2 h1 h0))
  · exact br_f (by decide) (br_f (by decide) (br_t (by decide) (cq_q3 h1 h0)))
  · exact br_f (by decide) (br_f (by decide) (br_f (by decide) (cq_q4 h1 h0)))
theorem y_pass {post : Int32 → Prop} {cp ph nw jn pj ag ac op : Int32} {wk ws fo ff fc hd ts ks vs rs ct : Nat → Int32} {s i o p : Nat} (hp : s * 12 + i = p) (hs : s < 2) (hi : p < 24) (ho : o < 5) (hf : fo s = nI o) (h1 : cq_ps (fo s) (ff s) (fc s) (ks p) (vs p) = true → post 1) (h0 : cq_ps (fo s) (ff s) (fc s) (ks p) (vs p) = false → post 0) : wpY_pass post (cp, ph, nw, jn, pj, ag, ac, op, wk, ws, fo, ff, fc, hd, ts, ks, vs, rs, ct) (nI s) (nI i) := by
  subst hp
  have c1 : (nI (s * 12 + i)).toNatClampNeg = s * 12 + i := nI_clamp (by omega)
  have c2 : (nI s).toNatClampNeg = s := nI_clamp (by omega)
  have w1 : vp_in (nI (s * 12 + i)) 24 := vp_in_nI hi (by omega)
  have w2 : vp_in (nI s) 2 := vp_in_nI hs (by omega)
  unfold cq_ps at h1 h0
  unfold wpY_pass
  dsimp only
  refine ⟨w2, ?_⟩
  rw [c2, cq_pl, c1]
  rw [hf] at h1 h0
  refine nm_r hf ?_
  by_cases e0 : o = 0
  · subst e0
    exact br_t (by decide) (cq_q0 h1)
  · refine br_f (nI_ne0 (by omega) (by omega)) ⟨w2, ?_⟩
    by_cases e : ff s = 0
    · rw [if_pos e] at h1 h0
      exact br_t e ⟨w1, y_p47 hs (by omega) ho h1 h0⟩
    · rw [if_neg e] at h1 h0
      exact br_f e ⟨w1, y_p47 hs (by omega) ho h1 h0⟩
/-! the order of rows, the sort -/
theorem y_less1 {post : Int32 → Prop} {cp ph nw jn pj ag ac op : Int32} {wk ws fo ff fc hd ts ks vs rs ct : Nat → Int32} {t i j p q c n : Nat} (ht : t < 4) (hi : i < 144) (hj : j < 144) (hp : cq_Y rs (t * 144 + i) p) (hq : cq_Y rs (t * 144 + j) q) (bp : p < 268435456) (bq : q < 268435456) (hc : c < 3) (h1 : cq_cl c p < cq_cl c q → post 1) (h0 : cq_cl c q < cq_cl c p → post 0) (h : cq_cl c p = cq_cl c q → wY_less_3 post (nI t) (nI i) (nI j) cp ph nw jn pj ag ac op wk ws fo ff fc hd ts ks vs rs ct n (nI (c + 1))) : wY_less_3 post (nI t) (nI i) (nI j) cp ph nw jn pj ag ac op wk ws fo ff fc hd ts ks vs rs ct (n + 1) (nI c) := by
  have b1 := cq_bb bp hc
  have b2 := cq_bb bq hc
  rw [wY_less_3]
  refine br_f (nI_ge (b := 3) hc (by decide)) ?_
  refine y_at ⟨vp_in_nI (by omega) (by omega), nm_r (e' := nI (cq_cl c p)) (by rw [nI_clamp (by omega)]; exact cq_Yc hp hc) ?_⟩
  refine y_at ⟨vp_in_nI (by omega) (by omega), nm_r (e' := nI (cq_cl c q)) (by rw [nI_clamp (by omega)]; exact cq_Yc hq hc) ?_⟩
  rcases Nat.lt_trichotomy (cq_cl c p) (cq_cl c q) with e | e | e
  · exact br_f (by rw [nI_eq (by omega) (by omega)]; omega) (br_f (nI_ge e (by omega)) (h1 e))
  · exact br_t (by rw [e]) (nm_r (nI_1 c) (h e))
  · exact br_f (by rw [nI_eq (by omega) (by omega)]; omega) (br_t (nI_le (by omega) (by omega)) (h0 e))
theorem y_less {post : Int32 → Prop} {cp ph nw jn pj ag ac op : Int32} {wk ws fo ff fc hd ts ks vs rs ct : Nat → Int32} {t i j p q : Nat} (ht : t < 4) (hi : i < 144) (hj : j < 144) (hp : cq_Y rs (t * 144 + i) p) (hq : cq_Y rs (t * 144 + j) q) (bp : p < 268435456) (bq : q < 268435456) (h1 : p < q → post 1) (h0 : ¬ p < q → post 0) : wpY_less post (cp, ph, nw, jn, pj, ag, ac, op, wk, ws, fo, ff, fc, hd, ts, ks, vs, rs, ct) (nI t) (nI i) (nI j) := by
  unfold wpY_less
  refine ⟨4, y_less1 (c := 0) ht hi hj hp hq bp bq (by decide) (fun e => h1 (cq_l0 e)) (fun e => h0 (by have := cq_l0 e; omega)) (fun e0 => ?_)⟩
  refine y_less1 (c := 1) ht hi hj hp hq bp bq (by decide) (fun e => h1 (cq_l1 e0 e)) (fun e => h0 (by have := cq_l1 e0.symm e; omega)) (fun e1 => ?_)
  refine y_less1 (c := 2) ht hi hj hp hq bp bq (by decide) (fun e => h1 (cq_l2 e0 e1 e)) (fun e => h0 (by have := cq_l2 e0.symm e1.symm e; omega)) (fun e2 => ?_)
  rw [wY_less_3]
  exact br_t (by decide) (h0 (by have := cq_eq e0 e1 e2; omega))
theorem y_sw1 {post : SY → Prop} {J : _} {cp ph nw jn pj ag ac op : Int32} {wk ws fo ff fc hd ts ks vs rs ct : Nat → Int32} {x2 : Int32} {t i m c n : Nat} (ht : t < 4) (hi : i < 144) (hm : m < 144) (hne : m ≠ i) (hc : c < 3) (h : wY_sort_53 post J (nI t) x2 (nI i) (nI m) cp ph nw jn pj ag ac op n (nI (c + 1)) wk ws fo ff fc hd ts ks vs (cq_s1 rs (t * 144 + i) (t * 144 + m) c) ct) : wY_sort_53 post J (nI t) x2 (nI i) (nI m) cp ph nw jn pj ag ac op (n + 1) (nI c) wk ws fo ff fc hd ts ks vs rs ct := by
  have k1 : (nI ((t * 144 + i) * 3 + c)).toNatClampNeg = (t * 144 + i) * 3 + c := nI_clamp (by omega)
  have k2 : (nI ((t * 144 + m) * 3 + c)).toNatClampNeg = (t * 144 + m) * 3 + c := nI_clamp (by omega)
  have w1 : vp_in (nI ((t * 144 + i) * 3 + c)) 1728 := vp_in_nI (by omega) (by omega)
  have w2 : vp_in (nI ((t * 144 + m) * 3 + c)) 1728 := vp_in_nI (by omega) (by omega)
  rw [wY_sort_53]
  refine br_f (nI_ge (b := 3) hc (by decide)) (br_f (by rw [nI_eq (by omega) (by omega)]; exact hne) ?_)
  refine y_at ⟨w1, nm_r (e' := rs ((t * 144 + i) * 3 + c)) (by rw [k1]) ?_⟩
  refine y_at (y_at ⟨w2, w1, nm_r (e' := upd rs ((t * 144 + i) * 3 + c) (rs ((t * 144 + m) * 3 + c))) (by rw [k1, k2]) ?_⟩)
  refine y_at ⟨w2, nm_r (e' := cq_s1 rs (t * 144 + i) (t * 144 + m) c) (by rw [k2]; rfl) (nm_r (nI_1 c) h)⟩
theorem y_sw {post : SY → Prop} {J : _} {cp ph nw jn pj ag ac op : Int32} {wk ws fo ff fc hd ts ks vs rs ct : Nat → Int32} {x2 : Int32} {t i m : Nat} (ht : t < 4) (hi : i < 144) (hm : m < 144) (h0 : m = i → J (nI (i + 1)) wk ws fo ff fc hd ts ks vs rs ct) (h1 : m ≠ i → J (nI (i + 1)) wk ws fo ff fc hd ts ks vs (cq_s3 rs (t * 144 + i) (t * 144 + m)) ct) : ∃ n53 : Nat, wY_sort_53 post J (nI t) x2 (nI i) (nI m) cp ph nw jn pj ag ac op n53 0 wk ws fo ff fc hd ts ks vs rs ct := by
  by_cases e : m = i
  · refine ⟨1, ?_⟩
    rw [wY_sort_53]
    exact br_f (by decide) (br_t (by rw [e]) (nm_r (nI_1 i) (h0 e)))
  · refine ⟨4, y_sw1 (c := 0) ht hi hm e (by decide) (y_sw1 (c := 1) ht hi hm e (by decide) (y_sw1 (c := 2) ht hi hm e (by decide) ?_))⟩
    rw [wY_sort_53]
    exact br_t (by decide) (nm_r (nI_1 i) (h1 e))
theorem y_minL {post : SY → Prop} {J : _} {cp ph nw jn pj ag ac op : Int32} {wk ws fo ff fc hd ts ks vs rs ct : Nat → Int32} {t i w : Nat} {f : Nat → Nat} (ht : t < 4) (hw : w ≤ 144) (hf : ∀ q, q < w → cq_Y rs (t * 144 + q) (f q)) (hb : ∀ q, q < w → f q < 268435456)
    (K : ∀ m, i ≤ m → m < w → (∀ q, i ≤ q → q < w → f m ≤ f q) → ∃ n53 : Nat, wY_sort_53 post J (nI t) (nI w) (nI i) (nI m) cp ph nw jn pj ag ac op n53 0 wk ws fo ff fc hd ts ks vs rs ct) :
    ∀ (d j m n : Nat), j + d = w → d < n → i ≤ m → m < j → (∀ q, i ≤ q → q < j → f m ≤ f q) → wY_sort_22 post J (nI t) (nI w) (nI i) cp ph nw jn pj ag ac op wk ws fo ff fc hd ts ks vs rs ct n (nI m) (nI j) := by
  intro d
  induction d with
  | zero =>
    intro j m n hj hn h1 h2 h3
    obtain ⟨n, rfl⟩ : ∃ m, n = m + 1 := ⟨n - 1, by omega⟩
    have hj' : j = w := by omega
    subst hj'
    rw [wY_sort_22]
    exact br_t (nI_le (Nat.le_refl _) (by omega)) (K m h1 h2 h3)
  | succ d ih =>
    intro j m n hj hn h1 h2 h3
    obtain ⟨n, rfl⟩ : ∃ m, n = m + 1 := ⟨n - 1, by omega⟩
    rw [wY_sort_22]
    refine br_f (nI_ge (by omega) (by omega)) ?_
    refine y_less ht (by omega) (by omega) (hf j (by omega)) (hf m (by omega)) (hb j (by omega)) (hb m (by omega)) (fun e => ?_) (fun e => ?_)
    · refine br_f (by decide) (nm_r (nI_1 j) (ih (j + 1) j n (by omega) (by omega) (by omega) (by omega) (fun q h4 h5 => ?_)))
      by_cases e2 : q = j
      · rw [e2]; exact Nat.le_refl _
      · have := h3 q h4 (by omega)
        omega
    · refine br_t rfl (nm_r (nI_1 j) (ih (j + 1) m n (by omega) (by omega) h1 (by omega) (fun q h4 h5 => ?_)))
      by_cases e2 : q = j
      · rw [e2]; omega
      · exact h3 q h4 (by omega)
theorem y_soL {post : SY → Prop} {cp ph nw jn pj ag ac op : Int32} {wk ws fo ff fc hd ts ks vs rs ct : Nat → Int32} {t w : Nat} {f0 : Nat → Nat} (ht : t < 4) (hw : w ≤ 144)
    (K : ∀ rs', cq_ar rs' ct t (cq_so (cq_L w f0)) → cq_pv t rs ct rs' ct → post (cp, ph, nw, jn, pj, ag, ac, op, wk, ws, fo, ff, fc, hd, ts, ks, vs, rs', ct)) :
    ∀ (d i n : Nat) (rs' : Nat → Int32) (f : Nat → Nat), i + d = w → d < n → List.Perm (cq_L w f) (cq_L w f0) → (∀ q, q < w → f q < 268435456) → (∀ p q, p < i → p < q → q < w → f p ≤ f q) → cq_ar rs' ct t (cq_L w f) → cq_pv t rs ct rs' ct → wY_sort_9 post (nI t) (nI w) cp ph nw jn pj ag ac op n (nI i) wk ws fo ff fc hd ts ks vs rs' ct := by
  intro d
  induction d with
  | zero =>
    intro i n rs' f hi hn hP hb hs ha hv
    obtain ⟨n, rfl⟩ : ∃ m, n = m + 1 := ⟨n - 1, by omega⟩
    rw [wY_sort_9]
    refine br_t (nI_le (by omega) (by omega)) (K rs' ?_ hv)
    rw [← cq_sou (cq_Ls (fun p q h1 h2 => hs p q (by omega) h1 h2)) hP]
    exact ha
  | succ d ih =>
    intro i n rs' f hi hn hP hb hs ha hv
    obtain ⟨n, rfl⟩ : ∃ m, n = m + 1 := ⟨n - 1, by omega⟩
    have hY : ∀ q, q < w → cq_Y rs' (t * 144 + q) (f q) := fun q hq => by
      have e := cq_arY ha (i := q) (by rw [cq_Ll]; exact hq)
      rw [cq_Lg hq] at e
      exact e
    rw [wY_sort_9]
    refine br_f (nI_ge (by omega) (by omega)) (nm_r (nI_1 i) ⟨w - i + 1, ?_⟩)
    refine y_minL ht hw hY hb (fun m h1 h2 h3 => ?_) (w - (i + 1)) (i + 1) i (w - i + 1) (by omega) (by omega) (Nat.le_refl _) (by omega) (fun q h4 h5 => by rw [show q = i by omega]; exact Nat.le_refl _)
    refine y_sw ht (by omega) (by omega) (fun e => ?_) (fun e => ?_)
    · subst e
      refine ih (m + 1) n rs' f (by omega) (by omega) hP hb (fun p q h4 h5 h6 => ?_) ha hv
      by_cases e2 : p = m
      · rw [e2]; exact h3 q (by omega) h6
      · exact hs p q (by omega) h5 h6
    · refine ih (i + 1) n _ (cq_sw f i m) (by omega) (by omega) ((cq_swp (by omega) h2).trans hP) (fun q hq => ?_) (cq_sel (by omega) h1 h2 hs h3) (cq_arS (by omega) h2 (fun z => e z.symm) ha) (cq_pvt hv (cq_pvS (by omega) (by omega)))
      unfold cq_sw
      split
      · exact hb _ h2
      · split
        · exact hb i (by omega)
        · exact hb q hq
theorem y_sort {post : SY → Prop} {cp ph nw jn pj ag ac op : Int32} {wk ws fo ff fc hd ts ks vs rs ct : Nat → Int32} {t : Nat} {L : List Nat} (ht : t < 4) (h : cq_ar rs ct t L) (hb : ∀ x, x ∈ L → x < 268435456)
    (K : ∀ rs', cq_ar rs' ct t (cq_so L) → cq_pv t rs ct rs' ct → post (cp, ph, nw, jn, pj, ag, ac, op, wk, ws, fo, ff, fc, hd, ts, ks, vs, rs', ct)) : wpY_sort post (cp, ph, nw, jn, pj, ag, ac, op, wk, ws, fo, ff, fc, hd, ts, ks, vs, rs, ct) (nI t) := by
  have e := cq_LE L
  have ct1 : (nI t).toNatClampNeg = t := nI_clamp (by omega)
  have H := y_soL (post := post) (cp := cp) (ph := ph) (nw := nw) (jn := jn) (pj := pj) (ag := ag) (ac := ac) (op := op) (wk := wk) (ws := ws) (fo := fo) (ff := ff) (fc := fc) (hd := hd) (ts := ts) (ks := ks) (vs := vs) (f0 := fun q => L.getD q 0) ht h.2.2 (by rw [e]; exact K) L.length 0 (L.length + 1) rs (fun q => L.getD q 0) (by omega) (by omega) (List.Perm.refl _) (fun q hq => hb _ (cq_gm hq)) (fun p q h1 => absurd h1 (Nat.not_lt_zero p)) (by rw [e]; exact h) cq_pvr
  unfold wpY_sort
  dsimp only
  refine ⟨vp_in_nI ht (by omega), ?_⟩
  rw [ct1]
  exact nm_r h.2.1 ⟨L.length + 1, H⟩
