/-! the statements owed, but for the step, info, row: what is refused, what is set -/
theorem i_up {k : Nat} {u : SX} {v : SY} (h : i_Rel k u v) : i_Rel (k + 5) u v := h
theorem cq_Rd {k c : Nat} {bc nc : Int32} {wk ws fo ff fc hd ts ks vs ba na ra oa : Nat → Int32} {rs ct : Nat → Int32} (h1 : 2 ≤ c) (h2 : c ≤ 12) (hk : cq_ok 16 ks) (hv : cq_ok 256 vs) : i_Rel k (nI c, 0, 0, 0, 7, 0, 0, 1, bc, nc, 0, 0, upd (upd wk 0 2) 1 2, upd (upd ws 0 (nI c)) 1 (nI c), upd (upd fo 0 0) 1 0, upd (upd ff 0 0) 1 0, upd (upd fc 0 0) 1 0, upd (upd hd 0 0) 1 0, ts, ks, vs, ba, na, ra, oa) (nI c, 0, 0, 0, 7, 0, 0, 1, upd (upd wk 0 2) 1 2, upd (upd ws 0 (nI c)) 1 (nI c), upd (upd fo 0 0) 1 0, upd (upd ff 0 0) 1 0, upd (upd fc 0 0) 1 0, upd (upd hd 0 0) 1 0, ts, ks, vs, rs, upd (upd (upd (upd ct 0 0) 1 0) 2 0) 3 0) :=
  cq_R (c := c) (m := 7) (a := 0) (co := 0) (o := 1) (R := []) (O := []) rfl rfl rfl rfl rfl rfl rfl h1 h2 (by decide) (by decide) (by decide) (by decide) (by decide) (by decide) (cq_cfD h1 h2) hk hv cq_lsE
theorem x_iss {post : Int32 → Prop} {x : Int32} (h1 : ∀ s, s < 2 → x = nI s → post 1) (h0 : ¬ x = 0 → ¬ x = 1 → post 0) : wpX_isStream post x := by
  unfold wpX_isStream
  exact br_c (fun e => h1 0 (by decide) e) (fun n => br_c (fun e => h1 1 (by decide) e) (fun n2 => h0 n n2))
theorem cq_is {A B : Prop} {s : Nat} (hs : s < 2) (a : A) : (nI s = 0 → A) ∧ (¬ nI s = 0 → ((nI s = 1 → A) ∧ (¬ nI s = 1 → B))) := by
  have hm : s = 0 ∨ s = 1 := by omega
  rcases hm with rfl | rfl
  · exact br_t (by decide) a
  · exact br_f (by decide) (br_t (by decide) a)
theorem cq_rng {x : Int32} {lo hi : Nat} (hlo : lo < 2 ^ 31) (hhi : hi < 2 ^ 31) (h1 : ¬ x < nI lo) (h2 : x ≤ nI hi) : ∃ j, lo ≤ j ∧ j ≤ hi ∧ x = nI j := by
  have n0 : ¬ x < 0 := by
    intro z
    apply h1
    rw [Int32.lt_iff_toInt_lt] at z ⊢
    rw [nI_toInt hlo]
    have : (0 : Int32).toInt = 0 := by decide
    omega
  obtain ⟨j, hj, rfl⟩ := nI_of n0
  rw [nI_ltI hj hlo] at h1
  rw [nI_leI hj hhi] at h2
  exact ⟨j, by omega, h2, rfl⟩
theorem cq_st {s : Nat} {hd : Nat → Int32} {c : Nat} {wk ws fo : Nat → Int32} (h9 : cq_cf c wk ws fo hd) (hs : s < 2) : ∃ h, h ≤ c ∧ hd s = nI h := (h9 s hs).2.2.2
theorem i_vc0 (k0 : Int32) : wpX_init (fun u => wpY_init (fun v => i_Rel 1 u v) k0) k0 := by
  unfold wpX_init wpX_clampedCap
  refine br_c (fun l => br_c (fun g => ?_) (fun g => ?_)) (fun l => ?_)
  · obtain ⟨c, hc1, hc2, rfl⟩ := cq_rng (lo := 2) (hi := 12) (by decide) (by decide) (Int32.not_lt.mpr l) g
    refine x_def ?_
    exact br_t l (br_t g (y_def (cq_Rd hc1 hc2 (cq_ok0 (by decide)) (cq_ok0 (by decide)))))
  · refine x_def ?_
    exact br_t l (br_f g (y_def (cq_Rd (c := 12) (by decide) (by decide) (cq_ok0 (by decide)) (cq_ok0 (by decide)))))
  · refine x_def ?_
    exact br_f l (br_t (by decide) (y_def (cq_Rd (c := 2) (by decide) (by decide) (cq_ok0 (by decide)) (cq_ok0 (by decide)))))
theorem i_vc_reset {k : Nat} {u : SX} {v : SY} (I : i_Rel k u v) (hk : k + 5 ≤ 2561) : wpX_reset (fun r u' => wpY_reset (fun r' v' => r' = r ∧ i_Rel (k + 5) u' v') v) u := by
  have J : i_Rel (k + 5) u v := I
  obtain ⟨c, m, a, co, t, R, O, ph, nw, jn, bc, nc, wk, ws, fo, ff, fc, hd, ts, ks, vs, ba, na, ra, oa, rs, ct, rfl, rfl, h1, h2, h3, h4, h5, h6, h7, h8, h9, h10, h11, h12⟩ := I
  unfold wpX_reset
  dsimp only
  refine x_def ?_
  dsimp only
  unfold wpY_reset
  dsimp only
  exact y_def ⟨rfl, cq_Rd h1 h2 h10 h11⟩
theorem i_vc_setWindow {k : Nat} {u : SX} {v : SY} (I : i_Rel k u v) (hk : k + 5 ≤ 2561) (v1 : Int32) (v2 : Int32) (v3 : Int32) : wpX_setWindow (fun r u' => wpY_setWindow (fun r' v' => r' = r ∧ i_Rel (k + 5) u' v') v v1 v2 v3) u v1 v2 v3 := by
  have J : i_Rel (k + 5) u v := I
  obtain ⟨c, m, a, co, t, R, O, ph, nw, jn, bc, nc, wk, ws, fo, ff, fc, hd, ts, ks, vs, ba, na, ra, oa, rs, ct, rfl, rfl, h1, h2, h3, h4, h5, h6, h7, h8, h9, h10, h11, h12⟩ := I
  unfold wpX_setWindow
  by_cases hp : ph = 0
  · refine br_t hp (x_iss (fun s hs e => ?_) (fun n0 n1 => ?_))
    · subst e
      have c1 : (nI s).toNatClampNeg = s := nI_clamp (by omega)
      have w1 : vp_in (nI s) 2 := vp_in_nI hs (by omega)
      refine br_f (by decide) ?_
      by_cases e1 : v2 = 1
      · subst e1
        refine br_t rfl (br_t rfl ?_)
        by_cases l : v3 < 1
        · exact br_t l (br_t hp (cq_is hs (br_t rfl (br_t rfl (br_t l ⟨rfl, J⟩)))))
        · by_cases g : v3 ≤ 64
          · obtain ⟨z, hz1, hz2, rfl⟩ := cq_rng (lo := 1) (hi := 64) (by decide) (by decide) l g
            refine br_f l (br_t g ⟨w1, nm_r (e' := upd wk s 1) (by rw [c1]) ⟨w1, nm_r (e' := upd ws s (nI z)) (by rw [c1]) ?_⟩⟩)
            refine br_t hp (cq_is hs (br_t rfl (br_t rfl (br_f l (br_t g (br_f (by decide) ⟨w1, nm_r (e' := upd wk s 1) (by rw [c1]) ⟨w1, nm_r (e' := upd ws s (nI z)) (by rw [c1]) ⟨rfl, ?_⟩⟩⟩))))))
            exact cq_R rfl rfl rfl rfl rfl rfl rfl h1 h2 h3 h4 h5 h6 h7 h8 (cq_cfW h9 (Or.inl rfl) hz1 (by omega) (fun z => absurd z (by decide))) h10 h11 h12
          · exact br_f l (br_f g (br_t hp (cq_is hs (br_t rfl (br_t rfl (br_f l (br_f g ⟨rfl, J⟩)))))))
      · by_cases e2 : v2 = 2
        · subst e2
          refine br_f e1 (br_t rfl (br_f e1 ?_))
          by_cases l : v3 < 1
          · exact br_t l (br_t hp (cq_is hs (br_f e1 (br_t rfl (br_f e1 (br_t rfl (br_t l ⟨rfl, J⟩)))))))
          · by_cases g : v3 ≤ nI c
            · obtain ⟨z, hz1, hz2, rfl⟩ := cq_rng (lo := 1) (hi := c) (by decide) (by omega) l g
              refine br_f l (br_t g ⟨w1, nm_r (e' := upd wk s 2) (by rw [c1]) ⟨w1, nm_r (e' := upd ws s (nI z)) (by rw [c1]) ?_⟩⟩)
              refine br_t hp (cq_is hs (br_f e1 (br_t rfl (br_f e1 (br_t rfl (br_f l (br_t g ⟨w1, nm_r (e' := upd wk s 2) (by rw [c1]) ⟨w1, nm_r (e' := upd ws s (nI z)) (by rw [c1]) ⟨rfl, ?_⟩⟩⟩)))))))
              exact cq_R rfl rfl rfl rfl rfl rfl rfl h1 h2 h3 h4 h5 h6 h7 h8 (cq_cfW h9 (Or.inr rfl) hz1 (by omega) (fun _ => hz2)) h10 h11 h12
            · exact br_f l (br_f g (br_t hp (cq_is hs (br_f e1 (br_t rfl (br_f e1 (br_t rfl (br_f l (br_f g ⟨rfl, J⟩)))))))))
        · exact br_f e1 (br_f e2 (br_t hp (cq_is hs (br_f e1 (br_f e2 ⟨rfl, J⟩)))))
    · exact br_t rfl (br_t hp (br_f n0 (br_f n1 ⟨rfl, J⟩)))
  · exact br_f hp (br_f hp ⟨rfl, J⟩)
theorem i_vc_setFilter {k : Nat} {u : SX} {v : SY} (I : i_Rel k u v) (hk : k + 5 ≤ 2561) (v1 : Int32) (v2 : Int32) (v3 : Int32) (v4 : Int32) : wpX_setFilter (fun r u' => wpY_setFilter (fun r' v' => r' = r ∧ i_Rel (k + 5) u' v') v v1 v2 v3 v4) u v1 v2 v3 v4 := by
  have J : i_Rel (k + 5) u v := I
  obtain ⟨c, m, a, co, t, R, O, ph, nw, jn, bc, nc, wk, ws, fo, ff, fc, hd, ts, ks, vs, ba, na, ra, oa, rs, ct, rfl, rfl, h1, h2, h3, h4, h5, h6, h7, h8, h9, h10, h11, h12⟩ := I
  unfold wpX_setFilter
  by_cases hp : ph = 0
  · refine br_t hp (x_iss (fun s hs e => ?_) (fun n0 n1 => ?_))
    · subst e
      have c1 : (nI s).toNatClampNeg = s := nI_clamp (by omega)
      have w1 : vp_in (nI s) 2 := vp_in_nI hs (by omega)
      refine br_f (by decide) ?_
      by_cases l : v3 < 0
      · exact br_t l (br_t hp (cq_is hs (br_t l ⟨rfl, J⟩)))
      · by_cases g : v3 ≤ 4
        · obtain ⟨z, hz1, hz2, rfl⟩ := cq_rng (lo := 0) (hi := 4) (by decide) (by decide) l g
          refine br_f l (br_t g ?_)
          by_cases e0 : nI z = 0
          · have ez : z = 0 := by rw [show (0 : Int32) = nI 0 from rfl, nI_eq (by omega) (by omega)] at e0; exact e0
            subst ez
            refine br_t e0 ⟨w1, nm_r (e' := upd fo s (nI 0)) (by rw [c1]) (br_t e0 ⟨w1, nm_r (e' := upd ff s 0) (by rw [c1]) (br_t e0 ⟨w1, nm_r (e' := upd fc s 0) (by rw [c1]) ?_⟩)⟩)⟩
            refine br_t hp (cq_is hs (br_f l (br_t g (br_t e0 (br_t e0 ⟨w1, nm_r (e' := upd fo s (nI 0)) (by rw [c1]; rfl) ⟨w1, nm_r (e' := upd ff s 0) (by rw [c1]) ⟨w1, nm_r (e' := upd fc s 0) (by rw [c1]) ⟨rfl, ?_⟩⟩⟩⟩)))))
            exact cq_R rfl rfl rfl rfl rfl rfl rfl h1 h2 h3 h4 h5 h6 h7 h8 (cq_cfF h9 (by decide)) h10 h11 h12
          · refine br_f e0 ?_
            have fin : wX_setFilter_47 (fun r u' => wpY_setFilter (fun r' v' => r' = r ∧ i_Rel (k + 5) u' v') (nI c, ph, nw, jn, nI m, nI a, nI co, nI t, wk, ws, fo, ff, fc, hd, ts, ks, vs, rs, ct) (nI s) v2 (nI z) v4) (nI s) v2 (nI z) v4 (nI c) ph nw jn (nI m) (nI a) (nI co) (nI t) bc nc (nI R.length) (nI O.length) wk ws fo ff fc hd ts ks vs ba na ra oa ∨ ¬ (v2 = 0 ∨ v2 = 1) := by
              by_cases f : v2 = 0 ∨ v2 = 1
              · refine Or.inl ⟨w1, nm_r (e' := upd fo s (nI z)) (by rw [c1]) (br_f e0 ⟨w1, nm_r (e' := upd ff s v2) (by rw [c1]) (br_f e0 ⟨w1, nm_r (e' := upd fc s v4) (by rw [c1]) ?_⟩)⟩)⟩
                have yf : wY_setFilter_49 (fun r' v' => r' = 0 ∧ i_Rel (k + 5) (nI c, ph, nw, jn, nI m, nI a, nI co, nI t, bc, nc, nI R.length, nI O.length, wk, ws, upd fo s (nI z), upd ff s v2, upd fc s v4, hd, ts, ks, vs, ba, na, ra, oa) v') (nI s) v2 (nI z) v4 (nI c) ph nw jn (nI m) (nI a) (nI co) (nI t) wk ws fo ff fc hd ts ks vs rs ct := by
                  refine br_f e0 ⟨w1, nm_r (e' := upd fo s (nI z)) (by rw [c1]) ⟨w1, nm_r (e' := upd ff s v2) (by rw [c1]) ⟨w1, nm_r (e' := upd fc s v4) (by rw [c1]) ⟨rfl, ?_⟩⟩⟩⟩
                  exact cq_R rfl rfl rfl rfl rfl rfl rfl h1 h2 h3 h4 h5 h6 h7 h8 (cq_cfF h9 (by omega)) h10 h11 h12
                refine br_t hp (cq_is hs (br_f l (br_t g (br_f e0 ?_))))
                exact br_c (fun _ => yf) (fun f0 => br_t (f.resolve_left f0) yf)
              · exact Or.inr f
            rcases fin with fin | f
            · by_cases f0 : v2 = 0
              · exact br_t f0 fin
              · by_cases f1 : v2 = 1
                · exact br_f f0 (br_t f1 fin)
                · exact br_f f0 (br_f f1 (br_t hp (cq_is hs (br_f l (br_t g (br_f e0 (br_f f0 (br_f f1 ⟨rfl, J⟩))))))))
            · exact br_f (fun z => f (Or.inl z)) (br_f (fun z => f (Or.inr z)) (br_t hp (cq_is hs (br_f l (br_t g (br_f e0 (br_f (fun z => f (Or.inl z)) (br_f (fun z => f (Or.inr z)) ⟨rfl, J⟩))))))))
        · exact br_f l (br_f g (br_t hp (cq_is hs (br_f l (br_f g ⟨rfl, J⟩)))))
    · exact br_t rfl (br_t hp (br_f n0 (br_f n1 ⟨rfl, J⟩)))
  · exact br_f hp (br_f hp ⟨rfl, J⟩)
theorem i_vc_setJoin {k : Nat} {u : SX} {v : SY} (I : i_Rel k u v) (hk : k + 5 ≤ 2561) (v1 : Int32) : wpX_setJoin (fun r u' => wpY_setJoin (fun r' v' => r' = r ∧ i_Rel (k + 5) u' v') v v1) u v1 := by
  have J : i_Rel (k + 5) u v := I
  obtain ⟨c, m, a, co, t, R, O, ph, nw, jn, bc, nc, wk, ws, fo, ff, fc, hd, ts, ks, vs, ba, na, ra, oa, rs, ct, rfl, rfl, h1, h2, h3, h4, h5, h6, h7, h8, h9, h10, h11, h12⟩ := I
  unfold wpX_setJoin
  by_cases hp : ph = 0
  · refine br_t hp ?_
    by_cases e0 : v1 = 0
    · exact br_t e0 (br_t hp (br_t e0 ⟨rfl, cq_R rfl rfl rfl rfl rfl rfl rfl h1 h2 h3 h4 h5 h6 h7 h8 h9 h10 h11 h12⟩))
    · by_cases e1 : v1 = 1
      · exact br_f e0 (br_t e1 (br_t hp (br_f e0 (br_t e1 ⟨rfl, cq_R rfl rfl rfl rfl rfl rfl rfl h1 h2 h3 h4 h5 h6 h7 h8 h9 h10 h11 h12⟩))))
      · exact br_f e0 (br_f e1 (br_t hp (br_f e0 (br_f e1 ⟨rfl, J⟩))))
  · exact br_f hp (br_f hp ⟨rfl, J⟩)
theorem i_vc_setProject {k : Nat} {u : SX} {v : SY} (I : i_Rel k u v) (hk : k + 5 ≤ 2561) (v1 : Int32) : wpX_setProject (fun r u' => wpY_setProject (fun r' v' => r' = r ∧ i_Rel (k + 5) u' v') v v1) u v1 := by
  have J : i_Rel (k + 5) u v := I
  obtain ⟨c, m, a, co, t, R, O, ph, nw, jn, bc, nc, wk, ws, fo, ff, fc, hd, ts, ks, vs, ba, na, ra, oa, rs, ct, rfl, rfl, h1, h2, h3, h4, h5, h6, h7, h8, h9, h10, h11, h12⟩ := I
  unfold wpX_setProject
  by_cases hp : ph = 0
  · refine br_t hp ?_
    by_cases l : v1 < 1
    · exact br_t l (br_t hp (br_t l ⟨rfl, J⟩))
    · by_cases g : v1 ≤ 7
      · obtain ⟨z, hz1, hz2, rfl⟩ := cq_rng (lo := 1) (hi := 7) (by decide) (by decide) l g
        exact br_f l (br_t g (br_t hp (br_f l (br_t g ⟨rfl, cq_R rfl rfl rfl rfl rfl rfl rfl h1 h2 hz1 hz2 h5 h6 h7 h8 h9 h10 h11 h12⟩))))
      · exact br_f l (br_f g (br_t hp (br_f l (br_f g ⟨rfl, J⟩))))
  · exact br_f hp (br_f hp ⟨rfl, J⟩)
theorem i_vc_setOutput {k : Nat} {u : SX} {v : SY} (I : i_Rel k u v) (hk : k + 5 ≤ 2561) (v1 : Int32) : wpX_setOutput (fun r u' => wpY_setOutput (fun r' v' => r' = r ∧ i_Rel (k + 5) u' v') v v1) u v1 := by
  have J : i_Rel (k + 5) u v := I
  obtain ⟨c, m, a, co, t, R, O, ph, nw, jn, bc, nc, wk, ws, fo, ff, fc, hd, ts, ks, vs, ba, na, ra, oa, rs, ct, rfl, rfl, h1, h2, h3, h4, h5, h6, h7, h8, h9, h10, h11, h12⟩ := I
  unfold wpX_setOutput
  by_cases hp : ph = 0
  · refine br_t hp ?_
    by_cases l : v1 < 1
    · exact br_t l (br_t hp (br_t l ⟨rfl, J⟩))
    · by_cases g : v1 ≤ 3
      · obtain ⟨z, hz1, hz2, rfl⟩ := cq_rng (lo := 1) (hi := 3) (by decide) (by decide) l g
        exact br_f l (br_t g (br_t hp (br_f l (br_t g ⟨rfl, cq_R rfl rfl rfl rfl rfl rfl rfl h1 h2 h3 h4 h5 h6 hz1 hz2 h9 h10 h11 h12⟩))))
      · exact br_f l (br_f g (br_t hp (br_f l (br_f g ⟨rfl, J⟩))))
  · exact br_f hp (br_f hp ⟨rfl, J⟩)
theorem i_vc_setAggregate {k : Nat} {u : SX} {v : SY} (I : i_Rel k u v) (hk : k + 5 ≤ 2561) (v1 : Int32) (v2 : Int32) : wpX_setAggregate (fun r u' => wpY_setAggregate (fun r' v' => r' = r ∧ i_Rel (k + 5) u' v') v v1 v2) u v1 v2 := by
  have J : i_Rel (k + 5) u v := I
  obtain ⟨c, m, a, co, t, R, O, ph, nw, jn, bc, nc, wk, ws, fo, ff, fc, hd, ts, ks, vs, ba, na, ra, oa, rs, ct, rfl, rfl, h1, h2, h3, h4, h5, h6, h7, h8, h9, h10, h11, h12⟩ := I
  unfold wpX_setAggregate
  by_cases hp : ph = 0
  · refine br_t hp ?_
    by_cases l : v1 < 0
    · exact br_t l (br_t hp (br_t l ⟨rfl, J⟩))
    · by_cases g : v1 ≤ 2
      · obtain ⟨z, hz1, hz2, rfl⟩ := cq_rng (lo := 0) (hi := 2) (by decide) (by decide) l g
        refine br_f l (br_t g ?_)
        by_cases e : nI z = 2
        · by_cases f1 : v2 = 1
          · subst f1
            exact br_t e (br_t rfl (br_t e (br_t hp (br_f l (br_t g (br_t e (br_t rfl (br_t e ⟨rfl, cq_R (co := 1) rfl rfl rfl rfl rfl rfl rfl h1 h2 h3 h4 (by omega) (by decide) h7 h8 h9 h10 h11 h12⟩))))))))
          · by_cases f2 : v2 = 2
            · subst f2
              exact br_t e (br_f f1 (br_t rfl (br_t e (br_t hp (br_f l (br_t g (br_t e (br_f f1 (br_t rfl (br_t e ⟨rfl, cq_R (co := 2) rfl rfl rfl rfl rfl rfl rfl h1 h2 h3 h4 (by omega) (by decide) h7 h8 h9 h10 h11 h12⟩))))))))))
            · exact br_t e (br_f f1 (br_f f2 (br_t hp (br_f l (br_t g (br_t e (br_f f1 (br_f f2 ⟨rfl, J⟩))))))))
        · exact br_f e (br_f e (br_t hp (br_f l (br_t g (br_f e (br_f e ⟨rfl, cq_R (co := 0) rfl rfl rfl rfl rfl rfl rfl h1 h2 h3 h4 (by omega) (by decide) h7 h8 h9 h10 h11 h12⟩))))))
      · exact br_f l (br_f g (br_t hp (br_f l (br_f g ⟨rfl, J⟩))))
  · exact br_f hp (br_f hp ⟨rfl, J⟩)
theorem i_vc_compile {k : Nat} {u : SX} {v : SY} (I : i_Rel k u v) (hk : k + 5 ≤ 2561) : wpX_compile (fun r u' => wpY_compile (fun r' v' => r' = r ∧ i_Rel (k + 5) u' v') v) u := by
  have J : i_Rel (k + 5) u v := I
  obtain ⟨c, m, a, co, t, R, O, ph, nw, jn, bc, nc, wk, ws, fo, ff, fc, hd, ts, ks, vs, ba, na, ra, oa, rs, ct, rfl, rfl, h1, h2, h3, h4, h5, h6, h7, h8, h9, h10, h11, h12⟩ := I
  unfold wpX_compile
  by_cases hp : ph = 0
  · refine br_t hp ?_
    have Rel : i_Rel (k + 5) (nI c, 1, 0, jn, nI m, nI a, nI co, nI t, bc, nc, 0, 0, wk, ws, fo, ff, fc, upd (upd hd 0 0) 1 0, ts, ks, vs, ba, na, ra, oa) (nI c, 1, 0, jn, nI m, nI a, nI co, nI t, wk, ws, fo, ff, fc, upd (upd hd 0 0) 1 0, ts, ks, vs, rs, upd (upd (upd (upd ct 0 0) 1 0) 2 0) 3 0) :=
      cq_R (R := []) (O := []) rfl rfl rfl rfl rfl rfl rfl h1 h2 h3 h4 h5 h6 h7 h8 (cq_cfH h9) h10 h11 cq_lsE
    have yc : wY_compile_35 (fun r' v' => r' = 0 ∧ i_Rel (k + 5) (nI c, 1, 0, jn, nI m, nI a, nI co, nI t, bc, nc, 0, 0, wk, ws, fo, ff, fc, upd (upd hd 0 0) 1 0, ts, ks, vs, ba, na, ra, oa) v') (nI c) ph nw jn (nI m) (nI a) (nI co) (nI t) wk ws fo ff fc hd ts ks vs rs ct := y_com ⟨rfl, Rel⟩
    by_cases ea : nI a = 2
    · by_cases ec : nI co = 2
      · by_cases ej : jn = 0
        · exact br_t ea (br_t ec (br_t ej (br_t hp (br_t ea (br_t ec (br_t ej ⟨rfl, J⟩))))))
        · refine br_t ea (br_t ec (br_f ej ?_))
          unfold wX_compile_35
          exact x_clr (br_t hp (br_t ea (br_t ec (br_f ej yc))))
      · refine br_t ea (br_f ec ?_)
        unfold wX_compile_35
        exact x_clr (br_t hp (br_t ea (br_f ec yc)))
    · refine br_f ea ?_
      unfold wX_compile_35
      exact x_clr (br_t hp (br_f ea yc))
  · exact br_f hp (br_f hp ⟨rfl, J⟩)
