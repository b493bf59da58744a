/-! the statements owed: arrive, stored, row, info, step -/
theorem i_vc_arrive {k : Nat} {u : SX} {v : SY} (I : i_Rel k u v) (hk : k + 5 ≤ 2561) (v1 : Int32) (v2 : Int32) (v3 : Int32) : wpX_arrive (fun r u' => wpY_arrive (fun r' v' => r' = r ∧ i_Rel (k + 5) u' v') v v1 v2 v3) u v1 v2 v3 := by
  have J : i_Rel (k + 5) u v := I
  obtain ⟨c, m, a, co, t, R, O, ph, nw, jn, bc, nc, wk, ws, fo, ff, fc, hd, ts, ks, vs, ba, na, ra, oa, rs, ct, rfl, rfl, h1, h2, h3, h4, h5, h6, h7, h8, h9, h10, h11, h12⟩ := I
  unfold wpX_arrive
  by_cases hp : ph = 1
  · refine br_t hp (x_iss (fun s hs e => ?_) (fun n0 n1 => ?_))
    · subst e
      have c1 : (nI s).toNatClampNeg = s := nI_clamp (by omega)
      have w1 : vp_in (nI s) 2 := vp_in_nI hs (by omega)
      have e12 : nI s * 12 = nI (s * 12) := pk_mul s 12
      obtain ⟨hw, ⟨z, hz1, hz2, hz3, hz4⟩, _, h, hh1, hh2⟩ := h9 s hs
      refine br_f (by decide) ?_
      have main : ∀ pY : (∀ postY : Int32 → SY → Prop, wY_arrive_37 postY (nI s) v2 v3 (nI c) ph nw jn (nI m) (nI a) (nI co) (nI t) wk ws fo ff fc hd ts ks vs rs ct → wpY_arrive postY (nI c, ph, nw, jn, nI m, nI a, nI co, nI t, wk, ws, fo, ff, fc, hd, ts, ks, vs, rs, ct) (nI s) v2 v3), wX_arrive_35 (fun r u' => wpY_arrive (fun r' v' => r' = r ∧ i_Rel (k + 5) u' v') (nI c, ph, nw, jn, nI m, nI a, nI co, nI t, wk, ws, fo, ff, fc, hd, ts, ks, vs, rs, ct) (nI s) v2 v3) (nI s) v2 v3 (nI c) ph nw jn (nI m) (nI a) (nI co) (nI t) bc nc (nI R.length) (nI O.length) wk ws fo ff fc hd ts ks vs ba na ra oa := by
        intro pY
        by_cases l1 : v2 < 0
        · exact br_t l1 (pY _ (br_t l1 ⟨rfl, J⟩))
        by_cases l2 : 15 < v2
        · exact br_f l1 (br_t l2 (pY _ (br_f l1 (br_t l2 ⟨rfl, J⟩))))
        by_cases l3 : v3 < 0
        · exact br_f l1 (br_f l2 (br_t l3 (pY _ (br_f l1 (br_f l2 (br_t l3 ⟨rfl, J⟩))))))
        by_cases l4 : v3 ≤ 255
        · obtain ⟨k2, _, hk2, rfl⟩ := cq_rng (lo := 0) (hi := 15) (by decide) (by decide) l1 (Int32.not_lt.mp l2)
          obtain ⟨k3, _, hk3, rfl⟩ := cq_rng (lo := 0) (hi := 255) (by decide) (by decide) l3 l4
          have fin : ∀ h' : Nat, h' + 1 ≤ c → ∀ (hd' ts' ks' vs' : Nat → Int32), cq_cf c wk ws fo hd' → cq_ok 16 ks' → cq_ok 256 vs' → hd' s = nI h' → i_Rel (k + 5) (nI c, ph, nw, jn, nI m, nI a, nI co, nI t, bc, nc, nI R.length, nI O.length, wk, ws, fo, ff, fc, upd hd' s (nI (h' + 1)), upd ts' (s * 12 + h') nw, upd ks' (s * 12 + h') (nI k2), upd vs' (s * 12 + h') (nI k3), ba, na, ra, oa) (nI c, ph, nw, jn, nI m, nI a, nI co, nI t, wk, ws, fo, ff, fc, upd hd' s (nI (h' + 1)), upd ts' (s * 12 + h') nw, upd ks' (s * 12 + h') (nI k2), upd vs' (s * 12 + h') (nI k3), rs, ct) := by
            intro h' g1 hd' ts' ks' vs' g2 g3 g4 g5
            exact cq_R rfl rfl rfl rfl rfl rfl rfl h1 h2 h3 h4 h5 h6 h7 h8 (cq_cfU g2 g1) (cq_okU g3 (by omega)) (cq_okU g4 (by omega)) h12
          refine br_f l1 (br_f l2 (br_f l3 (br_t l4 ⟨w1, ?_⟩)))
          rw [c1]
          by_cases q1 : wk s = 1
          · have q2 : ¬ wk s = 2 := by rw [q1]; decide
            refine br_t q1 ⟨w1, ?_⟩
            by_cases f : hd s < nI c
            · have f' : h < c := by rw [hh2, nI_ltI (by omega) (by omega)] at f; exact f
              refine br_t f ?_
              unfold wX_arrive_85
              rw [c1]
              refine ⟨w1, br_f q2 ?_⟩
              unfold wX_arrive_115
              refine x_app hs hh2 (by omega) (pY _ (br_f l1 (br_f l2 (br_f l3 (br_t l4 (nm_r e12 ⟨w1, ?_⟩))))))
              rw [c1]
              refine br_t q1 ⟨w1, br_t f ?_⟩
              unfold wY_arrive_93
              rw [c1]
              exact ⟨w1, br_f q2 (y_225 hs hh2 (by omega) ⟨rfl, fin h (by omega) hd ts ks vs h9 h10 h11 hh2⟩)⟩
            · refine br_f f (pY _ (br_f l1 (br_f l2 (br_f l3 (br_t l4 (nm_r e12 ⟨w1, ?_⟩))))))
              rw [c1]
              exact br_t q1 ⟨w1, br_f f ⟨rfl, J⟩⟩
          · have q2 : wk s = 2 := hw.resolve_left q1
            have hzc := hz4 q2
            refine br_f q1 ?_
            unfold wX_arrive_85
            rw [c1]
            refine ⟨w1, br_t q2 ⟨w1, w1, ?_⟩⟩
            have yy : ∀ postY : Int32 → SY → Prop, wY_arrive_93 postY (nI s) (nI k2) (nI k3) (nI (s * 12)) (nI c) ph nw jn (nI m) (nI a) (nI co) (nI t) wk ws fo ff fc hd ts ks vs rs ct → wpY_arrive postY (nI c, ph, nw, jn, nI m, nI a, nI co, nI t, wk, ws, fo, ff, fc, hd, ts, ks, vs, rs, ct) (nI s) (nI k2) (nI k3) := by
              intro postY H
              refine pY _ (br_f l1 (br_f l2 (br_f l3 (br_t l4 (nm_r e12 ⟨w1, ?_⟩)))))
              rw [c1]
              exact br_f q1 H
            by_cases f : hd s < ws s
            · have f' : h < z := by rw [hh2, hz3, nI_ltI (by omega) (by omega)] at f; exact f
              refine br_t f ?_
              unfold wX_arrive_115
              refine x_app hs hh2 (by omega) (yy _ ?_)
              unfold wY_arrive_93
              rw [c1]
              exact ⟨w1, br_t q2 ⟨w1, w1, br_t f (y_225 hs hh2 (by omega) ⟨rfl, fin h (by omega) hd ts ks vs h9 h10 h11 hh2⟩)⟩⟩
            · have f' : z ≤ h := by rw [hh2, hz3, nI_ltI (by omega) (by omega)] at f; omega
              refine br_f f (x_rem hs hh2 (by omega) (by omega) ?_)
              have e5 : upd hd s (nI (h - 1)) s = nI (h - 1) := pk_us
              have F := fin (h - 1) (by omega) (upd hd s (nI (h - 1))) (cq_rm (s * 12) ts (h - 1)) (cq_rm (s * 12) ks (h - 1)) (cq_rm (s * 12) vs (h - 1)) (cq_cfU h9 (by omega)) (cq_rmk h10 _) (cq_rmk h11 _) e5
              unfold wX_arrive_115
              refine x_app hs e5 (by omega) (yy _ ?_)
              unfold wY_arrive_93
              rw [c1]
              exact ⟨w1, br_t q2 ⟨w1, w1, br_f f ⟨h + 1, y_121 hs hh2 (by omega) (by omega) (y_225 hs e5 (by omega) ⟨rfl, F⟩) (h - 1) 0 (h + 1) (by omega) (by omega)⟩⟩⟩
        · exact br_f l1 (br_f l2 (br_f l3 (br_f l4 (pY _ (br_f l1 (br_f l2 (br_f l3 (br_f l4 ⟨rfl, J⟩))))))))
      by_cases es : nI s = 1
      · by_cases ej : jn = 0
        · exact br_t es (br_t ej (br_t hp (cq_is hs (br_t es (br_t ej ⟨rfl, J⟩)))))
        · exact br_t es (br_f ej (main (fun postY H => br_t hp (cq_is hs (br_t es (br_f ej H))))))
      · exact br_f es (main (fun postY H => br_t hp (cq_is hs (br_f es H))))
    · exact br_t rfl (br_t hp (br_f n0 (br_f n1 ⟨rfl, J⟩)))
  · exact br_f hp (br_f hp ⟨rfl, J⟩)
theorem i_vc_stored {k : Nat} {u : SX} {v : SY} (I : i_Rel k u v) (hk : k + 5 ≤ 2561) (v1 : Int32) (v2 : Int32) : wpX_stored (fun r => wpY_stored (fun r' => r' = r ∧ i_Rel (k + 5) u v) v v1 v2) u v1 v2 := by
  have J : i_Rel (k + 5) u v := I
  obtain ⟨c, m, a, co, t, R, O, ph, nw, jn, bc, nc, wk, ws, fo, ff, fc, hd, ts, ks, vs, ba, na, ra, oa, rs, ct, rfl, rfl, h1, h2, h3, h4, h5, h6, h7, h8, h9, h10, h11, h12⟩ := I
  unfold wpX_stored
  refine x_iss (fun s hs e => ?_) (fun n0 n1 => ?_)
  · subst e
    have c1 : (nI s).toNatClampNeg = s := nI_clamp (by omega)
    have w1 : vp_in (nI s) 2 := vp_in_nI hs (by omega)
    obtain ⟨_, _, _, h, hh1, hh2⟩ := h9 s hs
    refine br_f (by decide) ?_
    by_cases l : v2 < 0
    · exact br_t l (cq_is hs (br_t l ⟨rfl, J⟩))
    · obtain ⟨j, hj, rfl⟩ := nI_of l
      refine br_f l ⟨w1, ?_⟩
      rw [c1, hh2]
      by_cases g : j < h
      · have c2 : (nI (s * 12 + j)).toNatClampNeg = s * 12 + j := nI_clamp (by omega)
        have w2 : vp_in (nI (s * 12 + j)) 24 := vp_in_nI (by omega) (by omega)
        refine br_t (nI_lt g (by omega)) (x_pl ⟨w2, w2, w2, ?_⟩)
        rw [c2]
        refine cq_is hs (br_f l ⟨w1, ?_⟩)
        rw [c1, hh2]
        refine br_f (nI_ge g (by omega)) (br_t (nI_lt (b := 12) (by omega) (by decide)) (nm_r (cq_pl s j) ⟨w2, w2, w2, ?_⟩))
        rw [c2]
        exact ⟨rfl, J⟩
      · refine br_f (nI_nlt (by omega) (by omega)) ?_
        refine cq_is hs (br_f l ⟨w1, ?_⟩)
        rw [c1, hh2]
        exact br_t (nI_le (by omega) (by omega)) ⟨rfl, J⟩
  · exact br_t rfl (br_f n0 (br_f n1 ⟨rfl, J⟩))
theorem i_vc_row {k : Nat} {u : SX} {v : SY} (I : i_Rel k u v) (hk : k + 5 ≤ 2561) (v1 : Int32) (v2 : Int32) (v3 : Int32) : wpX_row (fun r => wpY_row (fun r' => r' = r ∧ i_Rel (k + 5) u v) v v1 v2 v3) u v1 v2 v3 := by
  have J : i_Rel (k + 5) u v := I
  obtain ⟨c, m, a, co, t, R, O, ph, nw, jn, bc, nc, wk, ws, fo, ff, fc, hd, ts, ks, vs, ba, na, ra, oa, rs, ct, rfl, rfl, h1, h2, h3, h4, h5, h6, h7, h8, h9, h10, h11, h12⟩ := I
  obtain ⟨hR, hO, aR, aO, sR, bR, bO⟩ := h12
  unfold wpX_row
  by_cases e0 : v1 = 0
  · have ec : ct (3 : Int32).toNatClampNeg = nI O.length := by rw [show (3 : Int32).toNatClampNeg = 3 from by decide]; exact aO.2.1
    have lL := aO.2.2
    have w : vp_in (3 : Int32) 4 := vp_in_nI (n := 3) (by decide) (by decide)
    by_cases l2 : v2 < 0
    · exact br_t e0 <| br_t e0 <| (br_t l2 (br_t e0 <| (br_t l2 ⟨rfl, J⟩)))
    by_cases l3 : v3 < 0
    · by_cases g : nI O.length ≤ v2
      · exact br_t e0 <| br_t e0 <| (br_f l2 (br_t g (br_t e0 <| (br_f l2 ⟨w, br_t (by rw [ec]; exact g) ⟨rfl, J⟩⟩))))
      · exact br_t e0 <| br_t e0 <| (br_f l2 (br_f g (br_t l3 (br_t e0 <| (br_f l2 ⟨w, br_f (by rw [ec]; exact g) (br_t l3 ⟨rfl, J⟩)⟩)))))
    by_cases l4 : v3 ≤ 2
    · obtain ⟨i, hi, rfl⟩ := nI_of l2
      obtain ⟨cc, _, hc2, rfl⟩ := cq_rng (lo := 0) (hi := 2) (by decide) (by decide) l3 l4
      by_cases g : nI O.length ≤ nI i
      · exact br_t e0 <| br_t e0 <| (br_f l2 (br_t g (br_t e0 <| (br_f l2 ⟨w, br_t (by rw [ec]; exact g) ⟨rfl, J⟩⟩))))
      · have g' : i < O.length := by rw [nI_leI (by omega) hi] at g; omega
        have hx := cq_Xg hO g'
        have hy := cq_arY aO g'
        have bx := bO _ (cq_gm g')
        have c1 : (nI i).toNatClampNeg = i := nI_clamp (by omega)
        have c2 : (nI ((3 * 144 + i) * 3 + cc)).toNatClampNeg = (3 * 144 + i) * 3 + cc := nI_clamp (by omega)
        refine br_t e0 <| br_t e0 <| (br_f l2 (br_f g (br_f l3 (br_t l4 (br_t e0 <| ⟨vp_in_nI (by omega) (by omega), ?_⟩)))))
        unfold wX_row_68
        rw [c1, hx]
        refine x_clm bx (by omega) ?_
        refine br_t e0 <| (br_f l2 ⟨w, br_f (by rw [ec]; exact g) (br_f l3 (br_t l4 (y_at (a := 3) ⟨vp_in_nI (by omega) (by omega), ?_⟩)))⟩)
        rw [c2]
        exact ⟨cq_Yc hy (by omega), J⟩
    · by_cases g : nI O.length ≤ v2
      · exact br_t e0 <| br_t e0 <| (br_f l2 (br_t g (br_t e0 <| (br_f l2 ⟨w, br_t (by rw [ec]; exact g) ⟨rfl, J⟩⟩))))
      · exact br_t e0 <| br_t e0 <| (br_f l2 (br_f g (br_f l3 (br_f l4 (br_t e0 <| (br_f l2 ⟨w, br_f (by rw [ec]; exact g) (br_f l3 (br_f l4 ⟨rfl, J⟩))⟩))))))
  · by_cases e1 : v1 = 1
    · have ec : ct (2 : Int32).toNatClampNeg = nI R.length := by rw [show (2 : Int32).toNatClampNeg = 2 from by decide]; exact aR.2.1
      have lL := aR.2.2
      have w : vp_in (2 : Int32) 4 := vp_in_nI (n := 2) (by decide) (by decide)
      by_cases l2 : v2 < 0
      · exact br_f e0 <| br_t e1 <| br_f e0 <| (br_t l2 (br_f e0 <| br_t e1 <| (br_t l2 ⟨rfl, J⟩)))
      by_cases l3 : v3 < 0
      · by_cases g : nI R.length ≤ v2
        · exact br_f e0 <| br_t e1 <| br_f e0 <| (br_f l2 (br_t g (br_f e0 <| br_t e1 <| (br_f l2 ⟨w, br_t (by rw [ec]; exact g) ⟨rfl, J⟩⟩))))
        · exact br_f e0 <| br_t e1 <| br_f e0 <| (br_f l2 (br_f g (br_t l3 (br_f e0 <| br_t e1 <| (br_f l2 ⟨w, br_f (by rw [ec]; exact g) (br_t l3 ⟨rfl, J⟩)⟩)))))
      by_cases l4 : v3 ≤ 2
      · obtain ⟨i, hi, rfl⟩ := nI_of l2
        obtain ⟨cc, _, hc2, rfl⟩ := cq_rng (lo := 0) (hi := 2) (by decide) (by decide) l3 l4
        by_cases g : nI R.length ≤ nI i
        · exact br_f e0 <| br_t e1 <| br_f e0 <| (br_f l2 (br_t g (br_f e0 <| br_t e1 <| (br_f l2 ⟨w, br_t (by rw [ec]; exact g) ⟨rfl, J⟩⟩))))
        · have g' : i < R.length := by rw [nI_leI (by omega) hi] at g; omega
          have hx := cq_Xg hR g'
          have hy := cq_arY aR g'
          have bx := bR _ (cq_gm g')
          have c1 : (nI i).toNatClampNeg = i := nI_clamp (by omega)
          have c2 : (nI ((2 * 144 + i) * 3 + cc)).toNatClampNeg = (2 * 144 + i) * 3 + cc := nI_clamp (by omega)
          refine br_f e0 <| br_t e1 <| br_f e0 <| (br_f l2 (br_f g (br_f l3 (br_t l4 (br_f e0 <| ⟨vp_in_nI (by omega) (by omega), ?_⟩)))))
          unfold wX_row_68
          rw [c1, hx]
          refine x_clm bx (by omega) ?_
          refine br_f e0 <| br_t e1 <| (br_f l2 ⟨w, br_f (by rw [ec]; exact g) (br_f l3 (br_t l4 (y_at (a := 2) ⟨vp_in_nI (by omega) (by omega), ?_⟩)))⟩)
          rw [c2]
          exact ⟨cq_Yc hy (by omega), J⟩
      · by_cases g : nI R.length ≤ v2
        · exact br_f e0 <| br_t e1 <| br_f e0 <| (br_f l2 (br_t g (br_f e0 <| br_t e1 <| (br_f l2 ⟨w, br_t (by rw [ec]; exact g) ⟨rfl, J⟩⟩))))
        · exact br_f e0 <| br_t e1 <| br_f e0 <| (br_f l2 (br_f g (br_f l3 (br_f l4 (br_f e0 <| br_t e1 <| (br_f l2 ⟨w, br_f (by rw [ec]; exact g) (br_f l3 (br_f l4 ⟨rfl, J⟩))⟩))))))
    · exact br_f e0 (br_f e1 (br_f e0 (br_f e1 ⟨rfl, J⟩)))
theorem i_vc_info {k : Nat} {u : SX} {v : SY} (I : i_Rel k u v) (hk : k + 5 ≤ 2561) (v1 : Int32) : wpX_info (fun r => wpY_info (fun r' => r' = r ∧ i_Rel (k + 5) u v) v v1) u v1 := by
  have J : i_Rel (k + 5) u v := I
  obtain ⟨c, m, a, co, t, R, O, ph, nw, jn, bc, nc, wk, ws, fo, ff, fc, hd, ts, ks, vs, ba, na, ra, oa, rs, ct, rfl, rfl, h1, h2, h3, h4, h5, h6, h7, h8, h9, h10, h11, h12⟩ := I
  obtain ⟨hR, hO, aR, aO, sR, bR, bO⟩ := h12
  unfold wpX_info
  by_cases l : v1 < 0
  · exact br_t l (br_t l ⟨rfl, J⟩)
  by_cases g : 21 < v1
  · exact br_f l (br_t g (br_f l (br_t g ⟨rfl, J⟩)))
  refine br_f l (br_f g ?_)
  by_cases e : v1 = 0
  · exact br_t e (br_f l (br_f g (br_t e (⟨rfl, J⟩))))
  have n0 := e
  clear e
  by_cases e : v1 = 1
  · exact br_f n0 (br_t e (br_f l (br_f g (br_f n0 (br_t e (⟨rfl, J⟩))))))
  have n1 := e
  clear e
  by_cases e : v1 = 2
  · exact br_f n0 (br_f n1 (br_t e (br_f l (br_f g (br_f n0 (br_f n1 (br_t e (⟨aO.2.1, J⟩))))))))
  have n2 := e
  clear e
  by_cases e : v1 = 3
  · exact br_f n0 (br_f n1 (br_f n2 (br_t e (br_f l (br_f g (br_f n0 (br_f n1 (br_f n2 (br_t e (⟨aR.2.1, J⟩))))))))))
  have n3 := e
  clear e
  by_cases e : v1 = 4
  · exact br_f n0 (br_f n1 (br_f n2 (br_f n3 (br_t e (br_f l (br_f g (br_f n0 (br_f n1 (br_f n2 (br_f n3 (br_t e (⟨rfl, J⟩))))))))))))
  have n4 := e
  clear e
  by_cases e : v1 = 5
  · exact br_f n0 (br_f n1 (br_f n2 (br_f n3 (br_f n4 (br_t e (br_f l (br_f g (br_f n0 (br_f n1 (br_f n2 (br_f n3 (br_f n4 (br_t e (⟨rfl, J⟩))))))))))))))
  have n5 := e
  clear e
  by_cases e : v1 = 6
  · exact br_f n0 (br_f n1 (br_f n2 (br_f n3 (br_f n4 (br_f n5 (br_t e (br_f l (br_f g (br_f n0 (br_f n1 (br_f n2 (br_f n3 (br_f n4 (br_f n5 (br_t e (⟨rfl, J⟩))))))))))))))))
  have n6 := e
  clear e
  by_cases e : v1 = 7
  · exact br_f n0 (br_f n1 (br_f n2 (br_f n3 (br_f n4 (br_f n5 (br_f n6 (br_t e (br_f l (br_f g (br_f n0 (br_f n1 (br_f n2 (br_f n3 (br_f n4 (br_f n5 (br_f n6 (br_t e (⟨rfl, J⟩))))))))))))))))))
  have n7 := e
  clear e
  by_cases e : v1 = 8
  · exact br_f n0 (br_f n1 (br_f n2 (br_f n3 (br_f n4 (br_f n5 (br_f n6 (br_f n7 (br_t e (br_f l (br_f g (br_f n0 (br_f n1 (br_f n2 (br_f n3 (br_f n4 (br_f n5 (br_f n6 (br_f n7 (br_t e (⟨rfl, J⟩))))))))))))))))))))
  have n8 := e
  clear e
  by_cases e : v1 = 9
  · exact br_f n0 (br_f n1 (br_f n2 (br_f n3 (br_f n4 (br_f n5 (br_f n6 (br_f n7 (br_f n8 (br_t e (br_f l (br_f g (br_f n0 (br_f n1 (br_f n2 (br_f n3 (br_f n4 (br_f n5 (br_f n6 (br_f n7 (br_f n8 (br_t e (⟨rfl, J⟩))))))))))))))))))))))
  have n9 := e
  clear e
  by_cases e : v1 = 10
  · exact br_f n0 (br_f n1 (br_f n2 (br_f n3 (br_f n4 (br_f n5 (br_f n6 (br_f n7 (br_f n8 (br_f n9 (br_t e (br_f l (br_f g (br_f n0 (br_f n1 (br_f n2 (br_f n3 (br_f n4 (br_f n5 (br_f n6 (br_f n7 (br_f n8 (br_f n9 (br_t e (⟨rfl, J⟩))))))))))))))))))))))))
  have n10 := e
  clear e
  by_cases e : v1 = 11
  · exact br_f n0 (br_f n1 (br_f n2 (br_f n3 (br_f n4 (br_f n5 (br_f n6 (br_f n7 (br_f n8 (br_f n9 (br_f n10 (br_t e (br_f l (br_f g (br_f n0 (br_f n1 (br_f n2 (br_f n3 (br_f n4 (br_f n5 (br_f n6 (br_f n7 (br_f n8 (br_f n9 (br_f n10 (br_t e (⟨rfl, J⟩))))))))))))))))))))))))))
  have n11 := e
  clear e
  by_cases e : v1 = 12
  · exact br_f n0 (br_f n1 (br_f n2 (br_f n3 (br_f n4 (br_f n5 (br_f n6 (br_f n7 (br_f n8 (br_f n9 (br_f n10 (br_f n11 (br_t e (br_f l (br_f g (br_f n0 (br_f n1 (br_f n2 (br_f n3 (br_f n4 (br_f n5 (br_f n6 (br_f n7 (br_f n8 (br_f n9 (br_f n10 (br_f n11 (br_t e (⟨rfl, J⟩))))))))))))))))))))))))))))
  have n12 := e
  clear e
  by_cases e : v1 = 13
  · exact br_f n0 (br_f n1 (br_f n2 (br_f n3 (br_f n4 (br_f n5 (br_f n6 (br_f n7 (br_f n8 (br_f n9 (br_f n10 (br_f n11 (br_f n12 (br_t e (br_f l (br_f g (br_f n0 (br_f n1 (br_f n2 (br_f n3 (br_f n4 (br_f n5 (br_f n6 (br_f n7 (br_f n8 (br_f n9 (br_f n10 (br_f n11 (br_f n12 (br_t e (⟨rfl, J⟩))))))))))))))))))))))))))))))
  have n13 := e
  clear e
  by_cases e : v1 = 14
  · exact br_f n0 (br_f n1 (br_f n2 (br_f n3 (br_f n4 (br_f n5 (br_f n6 (br_f n7 (br_f n8 (br_f n9 (br_f n10 (br_f n11 (br_f n12 (br_f n13 (br_t e (br_f l (br_f g (br_f n0 (br_f n1 (br_f n2 (br_f n3 (br_f n4 (br_f n5 (br_f n6 (br_f n7 (br_f n8 (br_f n9 (br_f n10 (br_f n11 (br_f n12 (br_f n13 (br_t e (⟨rfl, J⟩))))))))))))))))))))))))))))))))
  have n14 := e
  clear e
  by_cases e : v1 = 15
  · exact br_f n0 (br_f n1 (br_f n2 (br_f n3 (br_f n4 (br_f n5 (br_f n6 (br_f n7 (br_f n8 (br_f n9 (br_f n10 (br_f n11 (br_f n12 (br_f n13 (br_f n14 (br_t e (br_f l (br_f g (br_f n0 (br_f n1 (br_f n2 (br_f n3 (br_f n4 (br_f n5 (br_f n6 (br_f n7 (br_f n8 (br_f n9 (br_f n10 (br_f n11 (br_f n12 (br_f n13 (br_f n14 (br_t e (⟨rfl, J⟩))))))))))))))))))))))))))))))))))
  have n15 := e
  clear e
  by_cases e : v1 = 16
  · exact br_f n0 (br_f n1 (br_f n2 (br_f n3 (br_f n4 (br_f n5 (br_f n6 (br_f n7 (br_f n8 (br_f n9 (br_f n10 (br_f n11 (br_f n12 (br_f n13 (br_f n14 (br_f n15 (br_t e (br_f l (br_f g (br_f n0 (br_f n1 (br_f n2 (br_f n3 (br_f n4 (br_f n5 (br_f n6 (br_f n7 (br_f n8 (br_f n9 (br_f n10 (br_f n11 (br_f n12 (br_f n13 (br_f n14 (br_f n15 (br_t e (⟨rfl, J⟩))))))))))))))))))))))))))))))))))))
  have n16 := e
  clear e
  by_cases e : v1 = 17
  · exact br_f n0 (br_f n1 (br_f n2 (br_f n3 (br_f n4 (br_f n5 (br_f n6 (br_f n7 (br_f n8 (br_f n9 (br_f n10 (br_f n11 (br_f n12 (br_f n13 (br_f n14 (br_f n15 (br_f n16 (br_t e (br_f l (br_f g (br_f n0 (br_f n1 (br_f n2 (br_f n3 (br_f n4 (br_f n5 (br_f n6 (br_f n7 (br_f n8 (br_f n9 (br_f n10 (br_f n11 (br_f n12 (br_f n13 (br_f n14 (br_f n15 (br_f n16 (br_t e (⟨rfl, J⟩))))))))))))))))))))))))))))))))))))))
  have n17 := e
  clear e
  by_cases e : v1 = 18
  · exact br_f n0 (br_f n1 (br_f n2 (br_f n3 (br_f n4 (br_f n5 (br_f n6 (br_f n7 (br_f n8 (br_f n9 (br_f n10 (br_f n11 (br_f n12 (br_f n13 (br_f n14 (br_f n15 (br_f n16 (br_f n17 (br_t e (br_f l (br_f g (br_f n0 (br_f n1 (br_f n2 (br_f n3 (br_f n4 (br_f n5 (br_f n6 (br_f n7 (br_f n8 (br_f n9 (br_f n10 (br_f n11 (br_f n12 (br_f n13 (br_f n14 (br_f n15 (br_f n16 (br_f n17 (br_t e (⟨rfl, J⟩))))))))))))))))))))))))))))))))))))))))
  have n18 := e
  clear e
  by_cases e : v1 = 19
  · exact br_f n0 (br_f n1 (br_f n2 (br_f n3 (br_f n4 (br_f n5 (br_f n6 (br_f n7 (br_f n8 (br_f n9 (br_f n10 (br_f n11 (br_f n12 (br_f n13 (br_f n14 (br_f n15 (br_f n16 (br_f n17 (br_f n18 (br_t e (br_f l (br_f g (br_f n0 (br_f n1 (br_f n2 (br_f n3 (br_f n4 (br_f n5 (br_f n6 (br_f n7 (br_f n8 (br_f n9 (br_f n10 (br_f n11 (br_f n12 (br_f n13 (br_f n14 (br_f n15 (br_f n16 (br_f n17 (br_f n18 (br_t e (⟨rfl, J⟩))))))))))))))))))))))))))))))))))))))))))
  have n19 := e
  clear e
  by_cases e : v1 = 20
  · exact br_f n0 (br_f n1 (br_f n2 (br_f n3 (br_f n4 (br_f n5 (br_f n6 (br_f n7 (br_f n8 (br_f n9 (br_f n10 (br_f n11 (br_f n12 (br_f n13 (br_f n14 (br_f n15 (br_f n16 (br_f n17 (br_f n18 (br_f n19 (br_t e (br_f l (br_f g (br_f n0 (br_f n1 (br_f n2 (br_f n3 (br_f n4 (br_f n5 (br_f n6 (br_f n7 (br_f n8 (br_f n9 (br_f n10 (br_f n11 (br_f n12 (br_f n13 (br_f n14 (br_f n15 (br_f n16 (br_f n17 (br_f n18 (br_f n19 (br_t e (⟨rfl, J⟩))))))))))))))))))))))))))))))))))))))))))))
  have n20 := e
  clear e
  by_cases e : v1 = 21
  · exact br_f n0 (br_f n1 (br_f n2 (br_f n3 (br_f n4 (br_f n5 (br_f n6 (br_f n7 (br_f n8 (br_f n9 (br_f n10 (br_f n11 (br_f n12 (br_f n13 (br_f n14 (br_f n15 (br_f n16 (br_f n17 (br_f n18 (br_f n19 (br_f n20 (br_t e (br_f l (br_f g (br_f n0 (br_f n1 (br_f n2 (br_f n3 (br_f n4 (br_f n5 (br_f n6 (br_f n7 (br_f n8 (br_f n9 (br_f n10 (br_f n11 (br_f n12 (br_f n13 (br_f n14 (br_f n15 (br_f n16 (br_f n17 (br_f n18 (br_f n19 (br_f n20 (br_t e (⟨rfl, J⟩))))))))))))))))))))))))))))))))))))))))))))))
  have n21 := e
  clear e
  exfalso
  obtain ⟨z, hz1, hz2, rfl⟩ := cq_rng (lo := 0) (hi := 21) (by decide) (by decide) l (Int32.not_lt.mp g)
  have m0 : z ≠ 0 := fun q => n0 (by rw [q]; rfl)
  have m1 : z ≠ 1 := fun q => n1 (by rw [q]; rfl)
  have m2 : z ≠ 2 := fun q => n2 (by rw [q]; rfl)
  have m3 : z ≠ 3 := fun q => n3 (by rw [q]; rfl)
  have m4 : z ≠ 4 := fun q => n4 (by rw [q]; rfl)
  have m5 : z ≠ 5 := fun q => n5 (by rw [q]; rfl)
  have m6 : z ≠ 6 := fun q => n6 (by rw [q]; rfl)
  have m7 : z ≠ 7 := fun q => n7 (by rw [q]; rfl)
  have m8 : z ≠ 8 := fun q => n8 (by rw [q]; rfl)
  have m9 : z ≠ 9 := fun q => n9 (by rw [q]; rfl)
  have m10 : z ≠ 10 := fun q => n10 (by rw [q]; rfl)
  have m11 : z ≠ 11 := fun q => n11 (by rw [q]; rfl)
  have m12 : z ≠ 12 := fun q => n12 (by rw [q]; rfl)
  have m13 : z ≠ 13 := fun q => n13 (by rw [q]; rfl)
  have m14 : z ≠ 14 := fun q => n14 (by rw [q]; rfl)
  have m15 : z ≠ 15 := fun q => n15 (by rw [q]; rfl)
  have m16 : z ≠ 16 := fun q => n16 (by rw [q]; rfl)
  have m17 : z ≠ 17 := fun q => n17 (by rw [q]; rfl)
  have m18 : z ≠ 18 := fun q => n18 (by rw [q]; rfl)
  have m19 : z ≠ 19 := fun q => n19 (by rw [q]; rfl)
  have m20 : z ≠ 20 := fun q => n20 (by rw [q]; rfl)
  have m21 : z ≠ 21 := fun q => n21 (by rw [q]; rfl)
  omega
theorem i_vc_step {k : Nat} {u : SX} {v : SY} (I : i_Rel k u v) (hk : k + 5 ≤ 2561) : wpX_step (fun r u' => wpY_step (fun r' v' => r' = r ∧ i_Rel (k + 5) u' v') v) u := by
  have J : i_Rel (k + 5) u v := I
  obtain ⟨c, m, a, co, t, R, O, ph, nw, jn, bc, nc, wk, ws, fo, ff, fc, hd, ts, ks, vs, ba, na, ra, oa, rs, ct, rfl, rfl, h1, h2, h3, h4, h5, h6, h7, h8, h9, h10, h11, h12⟩ := I
  obtain ⟨hR, hO, aR, aO, sR, bR, bO⟩ := h12
  by_cases hp : ph = 1
  · obtain ⟨_, _, ⟨o', ho', hf'⟩, g0, g01, hh0⟩ := h9 0 (by decide)
    obtain ⟨_, _, ⟨o, ho, hf⟩, g1, g11, hh⟩ := h9 1 (by decide)
    have hj0 : jn = 0 → (!decide (jn = 0)) = false := fun z => by rw [decide_eq_true z]; rfl
    have hj1 : ¬ jn = 0 → (!decide (jn = 0)) = true := fun z => by rw [decide_eq_false z]; rfl
    refine x_step (K := fun i => (ks i).toNatClampNeg) (V := fun i => (vs i).toNatClampNeg) (p := fun j => cq_ps (fo 0) (ff 0) (fc 0) (ks j) (vs j)) (q := fun j => cq_ps (fo 1) (ff 1) (fc 1) (ks (12 + j)) (vs (12 + j))) (jb := !decide (jn = 0)) hp (cq_okK h10 (by decide)) (cq_okK h11 (by decide)) hh0 (by omega) hh (by omega) ho hf ho' hf' (fun _ => rfl) (fun _ => rfl) hj0 hj1 h5 h6 h3 h4 h7 h8 hR aR.2.2 bR (fun S O2 Q bc2 nc2 ba2 na2 ra2 oa2 eS eO eQ hS hO2 => ?_)
    refine y_step (S := S) (O := O2) (Q := Q) (K := fun i => (ks i).toNatClampNeg) (V := fun i => (vs i).toNatClampNeg) (p := fun j => cq_ps (fo 0) (ff 0) (fc 0) (ks j) (vs j)) (q := fun j => cq_ps (fo 1) (ff 1) (fc 1) (ks (12 + j)) (vs (12 + j))) (jb := !decide (jn = 0)) hp (cq_okK h10 (by decide)) (cq_okK h11 (by decide)) hh0 (by omega) hh (by omega) ho hf ho' hf' (fun _ => rfl) (fun _ => rfl) hj0 hj1 h5 h6 h4 h7 h8 aR sR bR eQ eS eO (fun rs2 ct2 a2 a3 => ⟨rfl, ?_⟩)
    have lB := cq_bsl (!decide (jn = 0)) (fun i => (ks i).toNatClampNeg) (fun i => (vs i).toNatClampNeg) (fun j => cq_ps (fo 0) (ff 0) (fc 0) (ks j) (vs j)) (fun j => cq_ps (fo 1) (ff 1) (fc 1) (ks (12 + j)) (vs (12 + j))) (h1 := g1) (by omega) g0
    have bB := cq_bsB (fun i => (cq_okK h10 (by decide) i).2) (fun i => (cq_okK h11 (by decide) i).2) (!decide (jn = 0)) (fun j => cq_ps (fo 0) (ff 0) (fc 0) (ks j) (vs j)) (fun j => cq_ps (fo 1) (ff 1) (fc 1) (ks (12 + j)) (vs (12 + j))) g1 g0
    have bS : ∀ x, x ∈ S → x < 268435456 := by rw [eS]; exact cq_nxb bB (by omega) h6
    have sS : S.Pairwise (· ≤ ·) := by rw [eS]; exact cq_sos _
    have bO2 : ∀ x, x ∈ O2 → x < 268435456 := fun x hx => by
      rw [eO] at hx
      rcases cq_ouS t S R with z | z
      · exact bS x (z.subset hx)
      · exact bR x (z.subset hx)
    have q0 := cq_xpI (s := 0) (nw := nw + 1) (q := (hd, ts, ks, vs)) (by decide) h2 h9 h10 h11
    have q1 := cq_xpI (s := 1) (nw := nw + 1) (by decide) h2 q0.1 q0.2.1 q0.2.2
    rw [← eQ] at q1
    exact cq_R rfl rfl rfl rfl rfl rfl rfl h1 h2 h3 h4 h5 h6 h7 h8 q1.1 q1.2.1 q1.2.2 ⟨hS, hO2, a2, a3, sS, bS, bO2⟩
  · unfold wpX_step
    exact br_f hp (br_f hp ⟨rfl, J⟩)
