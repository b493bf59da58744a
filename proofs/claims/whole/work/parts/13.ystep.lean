/-! the reference: the step -/
theorem cq_soi {L : List Nat} (h : L.Pairwise (· ≤ ·)) : cq_so L = L := (cq_sou h (List.Perm.refl _)).symm
theorem y_371 {post : Int32 → SY → Prop} {cp ph nw jn pj ag ac op : Int32} {wk ws fo ff fc hd ts ks vs rs ct : Nat → Int32} {h0 h1 : Nat} {S O : List Nat} {Q : (Nat → Int32) × (Nat → Int32) × (Nat → Int32) × (Nat → Int32)} (hh0 : hd 0 = nI h0) (h012 : h0 ≤ 12) (hh : hd 1 = nI h1) (h12 : h1 ≤ 12) (hS : cq_ar rs ct 1 S) (hO : cq_ar rs ct 3 O) (sO : O.Pairwise (· ≤ ·)) (bO : ∀ x, x ∈ O → x < 268435456) (hQ : Q = cq_xp 1 wk ws (nw + 1) (cq_xp 0 wk ws (nw + 1) (hd, ts, ks, vs)))
    (kf : ∀ rs' ct', cq_ar rs' ct' 2 S → cq_ar rs' ct' 3 O → post (nI O.length) (cp, ph, nw + 1, jn, pj, ag, ac, op, wk, ws, fo, ff, fc, Q.1, Q.2.1, Q.2.2.1, Q.2.2.2, rs', ct')) : wY_step_371 post cp ph nw jn pj ag ac op wk ws fo ff fc hd ts ks vs rs ct := by
  subst hQ
  unfold wY_step_371
  refine y_sort (t := 3) (by decide) hO bO (fun rs1 h1' v1 => ?_)
  rw [cq_soi sO] at h1'
  refine y_cop (f := 1) (t := 2) (by decide) (by decide) (by decide) (v1 1 S (by decide) hS) (fun rs2 ct2 h2 v2 => ?_)
  have hO2 := v2 3 O (by decide) h1'
  refine nm_e ?_
  refine y_exp (s := 0) (h := h0) (by decide) hh0 h012 ?_
  have hx : (cq_xp 0 wk ws (nw + 1) (hd, ts, ks, vs)).1 1 = nI h1 := by
    unfold cq_xp
    split
    · dsimp only; rw [pk_un (by decide)]; exact hh
    · exact hh
  refine y_exp (s := 1) (h := h1) (by decide) hx h12 ?_
  have F := kf rs2 ct2 h2 hO2
  rw [← hO2.2.1] at F
  exact F
def cq_bt : Nat → Nat → Nat
  | m, 0 => m % 2
  | m, 1 => m / 2 % 2
  | m, _ => m / 4 % 2
theorem cq_btT : ∀ (m : Fin 8) (c : Fin 3), ((((nI m.val) >>> ((nI c.val) &&& 31)) &&& 1) = 0 ↔ ¬ cq_bt m.val c.val = 1) := by decide +kernel
theorem cq_btE {m c : Nat} (hm : m ≤ 7) (hc : c < 3) : (((nI m) >>> ((nI c) &&& 31)) &&& 1) = 0 ↔ ¬ cq_bt m c = 1 := cq_btT ⟨m, by omega⟩ ⟨c, hc⟩
theorem cq_btc {m x c : Nat} (hx : x < 268435456) (hc : c < 3) : cq_cl c (cq_pr m x) = if cq_bt m c = 1 then cq_cl c x else 0 := by
  match c, hc with
  | 0, _ => exact cq_pr0 hx
  | 1, _ => exact cq_pr1 m x
  | 2, _ => exact cq_pr2 m x
def cq_z1 (rs : Nat → Int32) (o m c : Nat) : Nat → Int32 := if cq_bt m c = 1 then rs else upd rs (o * 3 + c) 0
theorem cq_z1a {rs : Nat → Int32} {o m c j : Nat} (hj : j = o * 3 + c) : cq_z1 rs o m c j = if cq_bt m c = 1 then rs j else 0 := by
  unfold cq_z1
  split
  · rfl
  · rw [hj, pk_us]
theorem cq_z1b {rs : Nat → Int32} {o m c j : Nat} (hj : j ≠ o * 3 + c) : cq_z1 rs o m c j = rs j := by
  unfold cq_z1
  split
  · rfl
  · rw [pk_un hj]
def cq_z3 (rs : Nat → Int32) (o m : Nat) : Nat → Int32 := cq_z1 (cq_z1 (cq_z1 rs o m 0) o m 1) o m 2
theorem cq_z3n {rs : Nat → Int32} {o m o' y : Nat} (h : o' ≠ o) (hy : cq_Y rs o' y) : cq_Y (cq_z3 rs o m) o' y := by
  unfold cq_Y at hy ⊢
  unfold cq_z3
  refine ⟨?_, ?_, ?_⟩
  · rw [cq_z1b (by omega), cq_z1b (by omega), cq_z1b (by omega)]; exact hy.1
  · rw [cq_z1b (by omega), cq_z1b (by omega), cq_z1b (by omega)]; exact hy.2.1
  · rw [cq_z1b (by omega), cq_z1b (by omega), cq_z1b (by omega)]; exact hy.2.2
theorem cq_nIif {p : Prop} {d : Decidable p} {a : Nat} : (if p then nI a else 0) = nI (if p then a else 0) := by
  split
  · rfl
  · exact nI_0.symm
theorem cq_z3s {rs : Nat → Int32} {o m x : Nat} (hx : x < 268435456) (hy : cq_Y rs o x) : cq_Y (cq_z3 rs o m) o (cq_pr m x) := by
  unfold cq_Y at hy ⊢
  unfold cq_z3
  rw [cq_btc hx (by decide), cq_btc hx (by decide), cq_btc hx (by decide)]
  refine ⟨?_, ?_, ?_⟩
  · rw [cq_z1b (by omega), cq_z1b (by omega), cq_z1a (by omega), hy.1]; exact cq_nIif
  · rw [cq_z1b (by omega), cq_z1a (by omega), cq_z1b (by omega), hy.2.1]; exact cq_nIif
  · rw [cq_z1a (by omega), cq_z1b (by omega), cq_z1b (by omega), hy.2.2]; exact cq_nIif
theorem cq_pvZ {rs ct : Nat → Int32} {t i m : Nat} (hi : i < 144) : cq_pv t rs ct (cq_z3 rs (t * 144 + i) m) ct := by
  intro a L ha h
  have hl := h.2.2
  exact ⟨cq_imp h.1 (fun o y h1 h2 h3 => cq_z3n (by omega) h3), h.2.1, hl⟩
theorem y_z1 {post : Int32 → SY → Prop} {J : _} {cp ph nw jn ag ac op : Int32} {wk ws fo ff fc hd ts ks vs rs ct : Nat → Int32} {i m c n : Nat} (hi : i < 144) (hm : m ≤ 7) (hc : c < 3) (h : wY_step_278 post J (nI i) cp ph nw jn (nI m) ag ac op n (nI (c + 1)) wk ws fo ff fc hd ts ks vs (cq_z1 rs (1 * 144 + i) m c) ct) : wY_step_278 post J (nI i) cp ph nw jn (nI m) ag ac op (n + 1) (nI c) wk ws fo ff fc hd ts ks vs rs ct := by
  rw [wY_step_278]
  refine br_f (nI_ge (b := 3) hc (by decide)) ?_
  by_cases e : cq_bt m c = 1
  · have ez : cq_z1 rs (1 * 144 + i) m c = rs := by unfold cq_z1; rw [if_pos e]
    rw [ez] at h
    exact br_f (fun z => (cq_btE hm hc).mp z e) (nm_r (nI_1 c) h)
  · have ez : cq_z1 rs (1 * 144 + i) m c = upd rs ((1 * 144 + i) * 3 + c) 0 := by unfold cq_z1; rw [if_neg e]
    rw [ez] at h
    refine br_t ((cq_btE hm hc).mpr e) (y_at (a := 1) ⟨vp_in_nI (by omega) (by omega), ?_⟩)
    rw [nI_clamp (by omega)]
    exact nm_e (nm_r (nI_1 c) h)
theorem y_z {post : Int32 → SY → Prop} {J : _} {cp ph nw jn ag ac op : Int32} {wk ws fo ff fc hd ts ks vs rs ct : Nat → Int32} {i m : Nat} (hi : i < 144) (hm : m ≤ 7) (h : J (nI (i + 1)) wk ws fo ff fc hd ts ks vs (cq_z3 rs (1 * 144 + i) m) ct) : wY_step_278 post J (nI i) cp ph nw jn (nI m) ag ac op 4 0 wk ws fo ff fc hd ts ks vs rs ct := by
  refine y_z1 (c := 0) hi hm (by decide) (y_z1 (c := 1) hi hm (by decide) (y_z1 (c := 2) hi hm (by decide) ?_))
  rw [wY_step_278]
  exact br_t (by decide) (nm_r (nI_1 i) h)
theorem y_266 {post : Int32 → SY → Prop} {cp ph nw jn ag ac : Int32} {wk ws fo ff fc hd ts ks vs rs ct : Nat → Int32} {h0 h1 m t : Nat} {L R S O : List Nat} {Q : (Nat → Int32) × (Nat → Int32) × (Nat → Int32) × (Nat → Int32)} (hh0 : hd 0 = nI h0) (h012 : h0 ≤ 12) (hh : hd 1 = nI h1) (h12 : h1 ≤ 12) (hm7 : m ≤ 7) (ht1 : 1 ≤ t) (ht3 : t ≤ 3) (hL : cq_ar rs ct 1 L) (bL : ∀ x, x ∈ L → x < 268435456) (hR : cq_ar rs ct 2 R) (sR : R.Pairwise (· ≤ ·)) (bR : ∀ x, x ∈ R → x < 268435456) (hQ : Q = cq_xp 1 wk ws (nw + 1) (cq_xp 0 wk ws (nw + 1) (hd, ts, ks, vs))) (eS : S = cq_so (L.map (cq_pr m))) (eO : O = cq_ou t S R)
    (kf : ∀ rs' ct', cq_ar rs' ct' 2 S → cq_ar rs' ct' 3 O → post (nI O.length) (cp, ph, nw + 1, jn, nI m, ag, ac, nI t, wk, ws, fo, ff, fc, Q.1, Q.2.1, Q.2.2.1, Q.2.2.2, rs', ct')) :
    ∀ (d i n : Nat) (rs' : Nat → Int32), i + d = L.length → d < n → (∀ j, j < i → cq_Y rs' (1 * 144 + j) (cq_pr m (L.getD j 0))) → (∀ j, i ≤ j → j < L.length → cq_Y rs' (1 * 144 + j) (L.getD j 0)) → cq_pv 1 rs ct rs' ct → wY_step_266 post cp ph nw jn (nI m) ag ac (nI t) n (nI i) wk ws fo ff fc hd ts ks vs rs' ct := by
  have lL := hL.2.2
  have bM : ∀ x, x ∈ L.map (cq_pr m) → x < 268435456 := fun x hx => by
    obtain ⟨y, hy, e⟩ := List.mem_map.mp hx
    rw [← e]
    exact cq_prb (bL y hy)
  have sS : S.Pairwise (· ≤ ·) := by rw [eS]; exact cq_sos _
  have bS : ∀ x, x ∈ S → x < 268435456 := fun x hx => by rw [eS] at hx; exact bM x (cq_som.mp hx)
  have sO : O.Pairwise (· ≤ ·) := by
    rw [eO]
    rcases cq_ouS t S R with z | z
    · exact sS.sublist z
    · exact sR.sublist z
  have bO : ∀ x, x ∈ O → x < 268435456 := fun x hx => by
    rw [eO] at hx
    rcases cq_ouS t S R with z | z
    · exact bS x (z.subset hx)
    · exact bR x (z.subset hx)
  intro d
  induction d with
  | zero =>
    intro i n rs' hi hn h1' h2' hv
    obtain ⟨n, rfl⟩ : ∃ m, n = m + 1 := ⟨n - 1, by omega⟩
    have hM : cq_ar rs' ct 1 (L.map (cq_pr m)) := by
      refine ⟨fun j hj => ?_, by rw [List.length_map]; exact hL.2.1, by rw [List.length_map]; exact lL⟩
      rw [List.length_map] at hj
      rw [cq_gmap hj]
      exact h1' j (by omega)
    rw [wY_step_266]
    refine br_t (by rw [hL.2.1]; exact nI_le (by omega) (by omega)) ?_
    refine y_sort (t := 1) (by decide) hM bM (fun rs1 hs1 v1 => nm_e ?_)
    rw [← eS] at hs1
    have hS0 := (cq_pv0 (t := 3) (v := 0) : cq_pv 3 rs1 ct rs1 (upd ct 3 0)) 1 S (by decide) hs1
    have hR0 := (cq_pv0 (t := 3) (v := 0) : cq_pv 3 rs1 ct rs1 (upd ct 3 0)) 2 R (by decide) (v1 2 R (by decide) (hv 2 R (by decide) hR))
    have h30 : cq_ar rs1 (upd ct 3 0) 3 [] := cq_ar0
    have hm : t = 1 ∨ t = 2 ∨ t = 3 := by omega
    rcases hm with rfl | rfl | rfl
    · refine br_f (by decide) (br_t (by decide) ?_)
      refine y_sur (f := 1) (g := 2) (by decide) (by decide) hS0 hR0 h30 bS bR (fun rs2 ct2 ho v2 => ?_)
      have e : cq_su R [] S = O := by rw [eO, cq_mdE sS sR]; rfl
      rw [e] at ho
      exact y_371 hh0 h012 hh h12 (v2 1 S (by decide) hS0) ho sO bO hQ kf
    · refine br_f (by decide) (br_f (by decide) ?_)
      refine y_sur (f := 2) (g := 1) (by decide) (by decide) hR0 hS0 h30 bR bS (fun rs2 ct2 ho v2 => ?_)
      have e : cq_su S [] R = O := by rw [eO, cq_mdE sR sS]; rfl
      rw [e] at ho
      exact y_371 hh0 h012 hh h12 (v2 1 S (by decide) hS0) ho sO bO hQ kf
    · refine br_t (by decide) ?_
      refine y_cop (f := 1) (t := 3) (by decide) (by decide) (by decide) hS0 (fun rs2 ct2 ho v2 => ?_)
      have e : S = O := by rw [eO]; rfl
      exact y_371 hh0 h012 hh h12 (v2 1 S (by decide) hS0) (by rw [← e]; exact ho) sO bO hQ kf
  | succ d ih =>
    intro i n rs' hi hn h1' h2' hv
    obtain ⟨n, rfl⟩ : ∃ m, n = m + 1 := ⟨n - 1, by omega⟩
    rw [wY_step_266]
    refine br_f (by rw [hL.2.1]; exact nI_ge (by omega) (by omega)) ⟨4, y_z (by omega) hm7 (ih (i + 1) n _ (by omega) (by omega) (fun j hj => ?_) (fun j hj1 hj2 => ?_) (cq_pvt hv (cq_pvZ (by omega))))⟩
    · by_cases e : j = i
      · rw [e]
        exact cq_z3s (bL _ (cq_gm (by omega))) (h2' i (Nat.le_refl _) (by omega))
      · exact cq_z3n (by omega) (h1' j (by omega))
    · exact cq_z3n (by omega) (h2' j (by omega) hj2)
