/-! the reference: groups, base rows, the step as a whole -/
theorem y_178 {post : Int32 → SY → Prop} {J : _} {cp ph nw jn pj op : Int32} {wk ws fo ff fc hd ts ks vs rs ct : Nat → Int32} {k a co : Nat} {B : List Nat} (hB : cq_ar rs ct 0 B) (hb : ∀ x, x ∈ B → cq_B x) (hk : k < 16) (ha : a < 3) (hco : co < 3) (hG : cq_ar rs ct 1 (cq_gp a co B k))
    (K : ∀ rs' ct', cq_ar rs' ct' 1 (cq_gp a co B (k + 1)) → cq_pv 1 rs ct rs' ct' → J (nI (k + 1)) cp ph nw jn pj (nI a) (nI co) op wk ws fo ff fc hd ts ks vs rs' ct') :
    ∀ (d i n : Nat), i + d = B.length → d < n → wY_step_178 post J (nI k) cp ph nw jn pj (nI a) (nI co) op wk ws fo ff fc hd ts ks vs rs ct n (nI (cq_gc k (B.take i))) (nI (cq_gs co k (B.take i))) (nI i) := by
  have hl := hB.2.2
  intro d
  induction d with
  | zero =>
    intro i n hi hn
    obtain ⟨n, rfl⟩ : ∃ m, n = m + 1 := ⟨n - 1, by omega⟩
    have hi' : i = B.length := by omega
    subst hi'
    have g1 := cq_gcl k B
    have g2 := cq_gpl a co B k
    rw [List.take_length, wY_step_178]
    refine br_t (by rw [hB.2.1]; exact nI_le (Nat.le_refl _) (by omega)) ?_
    by_cases e : 0 < cq_gc k B
    · have eg : cq_gp a co B (k + 1) = cq_gp a co B k ++ [cq_gr a co B k] := by rw [cq_gp, if_pos e]
      have gb := cq_gb (ag := a) (k := k) hb hl hco
      refine br_f (nI_nle e (by omega)) ?_
      have fin : ∀ z : Nat, z = (if a = 1 then cq_gc k B else cq_gs co k B) → wY_step_254 post J (nI k) (nI z) (nI k) 1 cp ph nw jn pj (nI a) (nI co) op wk ws fo ff fc hd ts ks vs rs ct := by
        intro z ez
        unfold wY_step_254
        refine y_put (t := 1) (x := cq_gr a co B k) (by decide) hG (by omega) ?_ ?_ ?_ (fun rs' ct' h1 v1 => nm_r (nI_1 k) (K rs' ct' (by rw [eg]; exact h1) v1))
        · unfold cq_gr; rw [cq_k0 gb (by decide)]
        · unfold cq_gr; rw [cq_k1 gb (by decide), ez]
        · unfold cq_gr; rw [cq_k2 (by decide)]; rfl
      by_cases ea : a = 1
      · exact br_t (by rw [ea]; rfl) (fin _ (by rw [if_pos ea]))
      · exact br_f (by rw [show (1 : Int32) = nI 1 from rfl, nI_eq (by omega) (by omega)]; exact ea) (fin _ (by rw [if_neg ea]))
    · have eg : cq_gp a co B (k + 1) = cq_gp a co B k := by rw [cq_gp, if_neg e]
      have e0 : cq_gc k B = 0 := by omega
      exact br_t (by rw [e0]; decide) (nm_r (nI_1 k) (K rs ct (by rw [eg]; exact hG) cq_pvr))
  | succ d ih =>
    intro i n hi hn
    obtain ⟨n, rfl⟩ : ∃ m, n = m + 1 := ⟨n - 1, by omega⟩
    have hx := hb _ (cq_gm (L := B) (i := i) (by omega))
    have b0 := cq_b0 hx.1
    have hy := cq_arY hB (i := i) (by omega)
    have et := cq_tk (L := B) (i := i) (by omega)
    have H := ih (i + 1) n (by omega) (by omega)
    rw [et, cq_gca, cq_gsa] at H
    rw [wY_step_178]
    refine br_f (by rw [hB.2.1]; exact nI_ge (by omega) (by omega)) ?_
    refine y_at (a := 0) (c := 0) ⟨vp_in_nI (by omega) (by omega), ?_⟩
    rw [nI_clamp (by omega), cq_Yc hy (c := 0) (by decide)]
    refine cq_ek (by omega) (by omega) (fun e => ?_) (fun e => ?_)
    · rw [if_pos e, if_pos e] at H
      refine nm_r (nI_1 _) (y_at (a := 0) ⟨vp_in_nI (by omega) (by omega), ?_⟩)
      rw [nI_clamp (by omega), cq_Yc hy hco]
      exact nm_r (nI_add _ _) (nm_r (nI_1 i) H)
    · rw [if_neg e, if_neg e] at H
      exact nm_r (nI_1 i) H
theorem y_165 {post : Int32 → SY → Prop} {cp ph nw jn : Int32} {wk ws fo ff fc hd ts ks vs rs ct : Nat → Int32} {h0 h1 m t a co : Nat} {B R S O : List Nat} {Q : (Nat → Int32) × (Nat → Int32) × (Nat → Int32) × (Nat → Int32)} (hh0 : hd 0 = nI h0) (h012 : h0 ≤ 12) (hh : hd 1 = nI h1) (h12 : h1 ≤ 12) (ha : a < 3) (ha0 : a ≠ 0) (hco : co < 3) (hm7 : m ≤ 7) (ht1 : 1 ≤ t) (ht3 : t ≤ 3) (hB : cq_ar rs ct 0 B) (bB : ∀ x, x ∈ B → cq_B x) (hR : cq_ar rs ct 2 R) (sR : R.Pairwise (· ≤ ·)) (bR : ∀ x, x ∈ R → x < 268435456) (hQ : Q = cq_xp 1 wk ws (nw + 1) (cq_xp 0 wk ws (nw + 1) (hd, ts, ks, vs))) (eS : S = cq_nx a co m B) (eO : O = cq_ou t S R)
    (kf : ∀ rs' ct', cq_ar rs' ct' 2 S → cq_ar rs' ct' 3 O → post (nI O.length) (cp, ph, nw + 1, jn, nI m, nI a, nI co, nI t, wk, ws, fo, ff, fc, Q.1, Q.2.1, Q.2.2.1, Q.2.2.2, rs', ct')) :
    ∀ (d k n : Nat) (rs' ct' : Nat → Int32), k + d = 16 → d < n → cq_ar rs' ct' 1 (cq_gp a co B k) → cq_pv 1 rs ct rs' ct' → wY_step_165 post n (nI k) cp ph nw jn (nI m) (nI a) (nI co) (nI t) wk ws fo ff fc hd ts ks vs rs' ct' := by
  intro d
  induction d with
  | zero =>
    intro k n rs' ct' hk hn hG hv
    obtain ⟨n, rfl⟩ : ∃ m, n = m + 1 := ⟨n - 1, by omega⟩
    have hk' : k = 16 := by omega
    subst hk'
    have eS' : S = cq_so ((cq_gp a co B 16).map (cq_pr m)) := by
      rw [eS]; unfold cq_nx cq_n0; rw [if_neg ha0]
    rw [wY_step_165]
    refine br_t (by decide) ⟨(cq_gp a co B 16).length + 1, ?_⟩
    exact y_266 hh0 h012 hh h12 hm7 ht1 ht3 hG (cq_gpb bB hB.2.2 hco 16 (Nat.le_refl _)) (hv 2 R (by decide) hR) sR bR hQ eS' eO kf (cq_gp a co B 16).length 0 _ rs' (by omega) (by omega) (fun j hj => absurd hj (Nat.not_lt_zero j)) (fun j _ hj => cq_arY hG hj) cq_pvr
  | succ d ih =>
    intro k n rs' ct' hk hn hG hv
    obtain ⟨n, rfl⟩ : ∃ m, n = m + 1 := ⟨n - 1, by omega⟩
    rw [wY_step_165]
    refine br_f (nI_ge (b := 16) (by omega) (by decide)) ⟨B.length + 1, ?_⟩
    exact y_178 (hv 0 B (by decide) hB) bB (by omega) ha hco hG (fun rs2 ct2 h2 v2 => ih (k + 1) n rs2 ct2 (by omega) (by omega) h2 (cq_pvt hv v2)) B.length 0 (B.length + 1) (by omega) (by omega)
theorem y_76 {post : Int32 → SY → Prop} {J : _} {cp ph nw jn pj ag ac op : Int32} {wk ws fo ff fc hd ts ks vs rs ct : Nat → Int32} {K V : Nat → Nat} {q : Nat → Bool} {i h1 o : Nat} (hK : ∀ j, ks j = nI (K j) ∧ K j < 16) (hV : ∀ j, vs j = nI (V j) ∧ V j < 256) (hh : hd 1 = nI h1) (h12 : h1 ≤ 12) (ho : o < 5) (hf : fo 1 = nI o) (hq : ∀ j, cq_ps (fo 1) (ff 1) (fc 1) (ks (12 + j)) (vs (12 + j)) = q j) {L : List Nat} (hL : L.length + 12 ≤ 144)
    (k : ∀ rs' ct', cq_ar rs' ct' 0 (L ++ cq_in K V q i h1) → cq_pv 0 rs ct rs' ct' → J (nI (i + 1)) cp ph nw jn pj ag ac op wk ws fo ff fc hd ts ks vs rs' ct') :
    ∀ (d j n : Nat) (rs' ct' : Nat → Int32), j + d = h1 → d < n → cq_ar rs' ct' 0 (L ++ cq_in K V q i j) → cq_pv 0 rs ct rs' ct' → wY_step_76 post J (nI i) (nI (K i)) (nI (V i)) n (nI j) cp ph nw jn pj ag ac op wk ws fo ff fc hd ts ks vs rs' ct' := by
  intro d
  induction d with
  | zero =>
    intro j n rs' ct' hj hn hS hv
    obtain ⟨n, rfl⟩ : ∃ m, n = m + 1 := ⟨n - 1, by omega⟩
    have hj' : j = h1 := by omega
    subst hj'
    rw [wY_step_76]
    exact br_t (by rw [hh]; exact nI_le (Nat.le_refl _) (by omega)) (nm_r (nI_1 i) (k rs' ct' hS hv))
  | succ d ih =>
    intro j n rs' ct' hj hn hS hv
    obtain ⟨n, rfl⟩ : ∃ m, n = m + 1 := ⟨n - 1, by omega⟩
    have hlt : ¬ hd 1 ≤ nI j := by rw [hh]; exact nI_ge (by omega) (by omega)
    have e12 : (12 : Int32) + nI j = nI (12 + j) := nI_add 12 j
    have c1 : (nI (12 + j)).toNatClampNeg = 12 + j := nI_clamp (by omega)
    have w1 : vp_in (nI (12 + j)) 24 := vp_in_nI (by omega) (by omega)
    have b1 := (hK (12 + j)).2
    have b2 := (hK i).2
    have b3 := (hV i).2
    have b4 := (hV (12 + j)).2
    have hl := cq_inl K V q i j
    have no : ¬ (K (12 + j) = K i ∧ q j = true) → wY_step_76 post J (nI i) (nI (K i)) (nI (V i)) n (nI (j + 1)) cp ph nw jn pj ag ac op wk ws fo ff fc hd ts ks vs rs' ct' := by
      intro ne
      have ein : cq_in K V q i (j + 1) = cq_in K V q i j := by rw [cq_in, if_neg ne]
      exact ih (j + 1) n rs' ct' (by omega) (by omega) (by rw [ein]; exact hS) hv
    rw [wY_step_76]
    refine br_f hlt (y_pass (s := 1) (p := 12 + j) (by omega) (by omega) (by omega) ho hf (fun hp => ?_) (fun hp => ?_))
    · refine br_f (by decide) ?_
      rw [e12, c1, (hK (12 + j)).1, (hV (12 + j)).1]
      refine ⟨w1, cq_ek (by omega) (by omega) (fun e => ⟨w1, ?_⟩) (fun e => nm_r (nI_1 j) (no (fun z => e z.1)))⟩
      have ein : cq_in K V q i (j + 1) = cq_in K V q i j ++ [cq_pk (K i) (V i) (V (12 + j))] := by
        rw [cq_in, if_pos ⟨e, (hq j).symm.trans hp⟩]
      refine y_put (t := 0) (x := cq_pk (K i) (V i) (V (12 + j))) (by decide) hS (by rw [List.length_append]; omega) (by rw [cq_k0 (by omega) b4]) (by rw [cq_k1 (by omega) b4]) (by rw [cq_k2 b4]) (fun rs2 ct2 h2 v2 => nm_r (nI_1 j) ?_)
      exact ih (j + 1) n rs2 ct2 (by omega) (by omega) (by rw [ein, ← List.append_assoc]; exact h2) (cq_pvt hv v2)
    · exact br_t rfl (nm_r (nI_1 j) (no (fun z => by have := (hq j).symm.trans hp; rw [z.2] at this; exact absurd this (by decide))))
theorem y_19 {post : Int32 → SY → Prop} {cp ph nw jn : Int32} {wk ws fo ff fc hd ts ks vs rs ct : Nat → Int32} {K V : Nat → Nat} {p q : Nat → Bool} {jb : Bool} {h0 h1 m t a co o o' : Nat} {B R S O : List Nat} {Q : (Nat → Int32) × (Nat → Int32) × (Nat → Int32) × (Nat → Int32)} (hK : ∀ j, ks j = nI (K j) ∧ K j < 16) (hV : ∀ j, vs j = nI (V j) ∧ V j < 256) (hh0 : hd 0 = nI h0) (h012 : h0 ≤ 12) (hh : hd 1 = nI h1) (h12 : h1 ≤ 12) (ho : o < 5) (hf : fo 1 = nI o) (ho' : o' < 5) (hf' : fo 0 = nI o') (hp : ∀ j, cq_ps (fo 0) (ff 0) (fc 0) (ks j) (vs j) = p j) (hq : ∀ j, cq_ps (fo 1) (ff 1) (fc 1) (ks (12 + j)) (vs (12 + j)) = q j) (hj0 : jn = 0 → jb = false) (hj1 : ¬ jn = 0 → jb = true)
    (ha : a < 3) (hco : co < 3) (hm7 : m ≤ 7) (ht1 : 1 ≤ t) (ht3 : t ≤ 3) (eB : B = cq_bs jb K V p q h1 h0) (hR : cq_ar rs ct 2 R) (sR : R.Pairwise (· ≤ ·)) (bR : ∀ x, x ∈ R → x < 268435456) (hQ : Q = cq_xp 1 wk ws (nw + 1) (cq_xp 0 wk ws (nw + 1) (hd, ts, ks, vs))) (eS : S = cq_nx a co m B) (eO : O = cq_ou t S R)
    (kf : ∀ rs' ct', cq_ar rs' ct' 2 S → cq_ar rs' ct' 3 O → post (nI O.length) (cp, ph, nw + 1, jn, nI m, nI a, nI co, nI t, wk, ws, fo, ff, fc, Q.1, Q.2.1, Q.2.2.1, Q.2.2.2, rs', ct')) :
    ∀ (d i n : Nat) (rs' ct' : Nat → Int32), i + d = h0 → d < n → cq_ar rs' ct' 0 (cq_bs jb K V p q h1 i) → cq_pv 0 rs ct rs' ct' → wY_step_19 post n (nI i) cp ph nw jn (nI m) (nI a) (nI co) (nI t) wk ws fo ff fc hd ts ks vs rs' ct' := by
  intro d
  induction d with
  | zero =>
    intro i n rs' ct' hi hn hB hv
    obtain ⟨n, rfl⟩ : ∃ m, n = m + 1 := ⟨n - 1, by omega⟩
    have hi' : i = h0 := by omega
    subst hi'
    rw [← eB] at hB
    have bB : ∀ x, x ∈ B → cq_B x := by rw [eB]; exact cq_bsB (fun i => (hK i).2) (fun i => (hV i).2) jb p q h1 _
    have v1 : cq_pv 1 rs' ct' rs' (upd ct' 1 0) := cq_pv0
    have hB1 := v1 0 B (by decide) hB
    have hR1 := v1 2 R (by decide) (hv 2 R (by decide) hR)
    have lB := hB.2.2
    rw [wY_step_19]
    refine br_t (by rw [hh0]; exact nI_le (Nat.le_refl _) (by omega)) (nm_e ?_)
    by_cases ea : a = 0
    · refine br_t (by rw [ea]; rfl) ?_
      refine y_cop (f := 0) (t := 1) (by decide) (by decide) (by decide) hB1 (fun rs2 ct2 h2 v2 => ⟨B.length + 1, ?_⟩)
      have eS' : S = cq_so (B.map (cq_pr m)) := by
        rw [eS]; unfold cq_nx cq_n0; rw [if_pos ea]
      exact y_266 hh0 h012 hh h12 hm7 ht1 ht3 h2 (fun x hx => (bB x hx).1) (v2 2 R (by decide) hR1) sR bR hQ eS' eO kf B.length 0 _ rs2 (by omega) (by omega) (fun j hj => absurd hj (Nat.not_lt_zero j)) (fun j _ hj => cq_arY h2 hj) cq_pvr
    · refine br_f (nI_ne0 (by omega) (by omega)) ⟨17, ?_⟩
      exact y_165 hh0 h012 hh h12 ha ea hco hm7 ht1 ht3 hB1 bB hR1 sR bR hQ eS eO kf 16 0 17 rs' (upd ct' 1 0) (by omega) (by omega) cq_ar0 cq_pvr
  | succ d ih =>
    intro i n rs' ct' hi hn hB hv
    obtain ⟨n, rfl⟩ : ∃ m, n = m + 1 := ⟨n - 1, by omega⟩
    have hlt : ¬ hd 0 ≤ nI i := by rw [hh0]; exact nI_ge (by omega) (by omega)
    have c1 : (nI i).toNatClampNeg = i := nI_clamp (by omega)
    have w1 : vp_in (nI i) 24 := vp_in_nI (by omega) (by omega)
    have b2 := (hK i).2
    have b3 := (hV i).2
    have hl := cq_bsl jb K V p q h12 i
    rw [wY_step_19]
    refine br_f hlt (y_pass (s := 0) (p := i) (by omega) (by omega) (by omega) ho' hf' (fun hpt => ?_) (fun hpf => ?_))
    · have hpi : p i = true := (hp i).symm.trans hpt
      refine br_f (by decide) ?_
      rw [c1, (hK i).1, (hV i).1]
      refine ⟨w1, nm_e ⟨w1, nm_e ?_⟩⟩
      by_cases ej : jn = 0
      · have eb : cq_bs jb K V p q h1 (i + 1) = cq_bs jb K V p q h1 i ++ [cq_pk (K i) (V i) 0] := by
          rw [cq_bs, cq_rw, if_pos hpi, hj0 ej, if_neg (by decide)]
        refine br_t ej ?_
        refine y_put (t := 0) (x := cq_pk (K i) (V i) 0) (by decide) hB (by omega) (by rw [cq_k0 (by omega) (by omega)]) (by rw [cq_k1 (by omega) (by omega)]) (by rw [cq_k2 (by omega)]; rfl) (fun rs2 ct2 h2 v2 => nm_r (nI_1 i) ?_)
        exact ih (i + 1) n rs2 ct2 (by omega) (by omega) (by rw [eb]; exact h2) (cq_pvt hv v2)
      · have eb : cq_bs jb K V p q h1 (i + 1) = cq_bs jb K V p q h1 i ++ cq_in K V q i h1 := by
          rw [cq_bs, cq_rw, if_pos hpi, hj1 ej, if_pos rfl]
        refine br_f ej ⟨h1 + 1, ?_⟩
        exact y_76 (L := cq_bs jb K V p q h1 i) hK hV hh h12 ho hf hq (by omega) (fun rs2 ct2 h2 v2 => ih (i + 1) n rs2 ct2 (by omega) (by omega) (by rw [eb]; exact h2) (cq_pvt hv v2)) h1 0 (h1 + 1) rs' ct' (by omega) (by omega) (by rw [cq_in, List.append_nil]; exact hB) cq_pvr
    · have hpi : p i = false := (hp i).symm.trans hpf
      have eb : cq_bs jb K V p q h1 (i + 1) = cq_bs jb K V p q h1 i := by
        rw [cq_bs, cq_rw, if_neg (by rw [hpi]; decide), List.append_nil]
      exact br_t rfl (nm_r (nI_1 i) (ih (i + 1) n rs' ct' (by omega) (by omega) (by rw [eb]; exact hB) hv))
theorem y_step {post : Int32 → SY → Prop} {cp ph nw jn : Int32} {wk ws fo ff fc hd ts ks vs rs ct : Nat → Int32} {K V : Nat → Nat} {p q : Nat → Bool} {jb : Bool} {h0 h1 m t a co o o' : Nat} {R S O : List Nat} {Q : (Nat → Int32) × (Nat → Int32) × (Nat → Int32) × (Nat → Int32)} (hph : ph = 1) (hK : ∀ j, ks j = nI (K j) ∧ K j < 16) (hV : ∀ j, vs j = nI (V j) ∧ V j < 256) (hh0 : hd 0 = nI h0) (h012 : h0 ≤ 12) (hh : hd 1 = nI h1) (h12 : h1 ≤ 12) (ho : o < 5) (hf : fo 1 = nI o) (ho' : o' < 5) (hf' : fo 0 = nI o') (hp : ∀ j, cq_ps (fo 0) (ff 0) (fc 0) (ks j) (vs j) = p j) (hq : ∀ j, cq_ps (fo 1) (ff 1) (fc 1) (ks (12 + j)) (vs (12 + j)) = q j) (hj0 : jn = 0 → jb = false) (hj1 : ¬ jn = 0 → jb = true)
    (ha : a < 3) (hco : co < 3) (hm7 : m ≤ 7) (ht1 : 1 ≤ t) (ht3 : t ≤ 3) (hR : cq_ar rs ct 2 R) (sR : R.Pairwise (· ≤ ·)) (bR : ∀ x, x ∈ R → x < 268435456) (hQ : Q = cq_xp 1 wk ws (nw + 1) (cq_xp 0 wk ws (nw + 1) (hd, ts, ks, vs))) (eS : S = cq_nx a co m (cq_bs jb K V p q h1 h0)) (eO : O = cq_ou t S R)
    (kf : ∀ rs' ct', cq_ar rs' ct' 2 S → cq_ar rs' ct' 3 O → post (nI O.length) (cp, ph, nw + 1, jn, nI m, nI a, nI co, nI t, wk, ws, fo, ff, fc, Q.1, Q.2.1, Q.2.2.1, Q.2.2.2, rs', ct')) : wpY_step post (cp, ph, nw, jn, nI m, nI a, nI co, nI t, wk, ws, fo, ff, fc, hd, ts, ks, vs, rs, ct) := by
  have v0 : cq_pv 0 rs ct rs (upd ct 0 0) := cq_pv0
  unfold wpY_step
  refine br_t hph (nm_e ⟨h0 + 1, ?_⟩)
  exact y_19 hK hV hh0 h012 hh h12 ho hf ho' hf' hp hq hj0 hj1 ha hco hm7 ht1 ht3 rfl (v0 2 R (by decide) hR) sR bR hQ eS eO kf h0 0 (h0 + 1) rs (upd ct 0 0) (by omega) (by omega) cq_ar0 cq_pvr
