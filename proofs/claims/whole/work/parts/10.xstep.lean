/-! the component: what is emitted, what expires, the step -/
theorem x_emit {post : SX → Prop} {cp ph nw jn pj ag ac bc oc : Int32} {wk ws fo ff fc hd ts ks vs ba na ra oa : Nat → Int32} {o : Nat} {S R : List Nat} (ho1 : 1 ≤ o) (ho3 : o ≤ 3) (hS : cq_S (cq_X na) 0 S) (hR : cq_S (cq_X ra) 0 R) (lS : S.length ≤ 144) (lR : R.length ≤ 144) (bS : ∀ x, x ∈ S → x < 268435456) (bR : ∀ x, x ∈ R → x < 268435456)
    (K : ∀ oa', cq_S (cq_X oa') 0 (cq_ou o S R) → post (cp, ph, nw, jn, pj, ag, ac, nI o, bc, nI S.length, nI R.length, nI (cq_ou o S R).length, wk, ws, fo, ff, fc, hd, ts, ks, vs, ba, na, ra, oa')) : wpX_emitRows post (cp, ph, nw, jn, pj, ag, ac, nI o, bc, nI S.length, nI R.length, oc, wk, ws, fo, ff, fc, hd, ts, ks, vs, ba, na, ra, oa) := by
  unfold wpX_emitRows
  have hm : o = 1 ∨ o = 2 ∨ o = 3 := by omega
  rcases hm with rfl | rfl | rfl
  · have e : cq_ou 1 S R = cq_md S R := by unfold cq_ou; rw [if_pos rfl]
    rw [e] at K
    exact br_t (by decide) (x_ei hS hR lS lR bS bR K)
  · have e : cq_ou 2 S R = cq_md R S := by unfold cq_ou; rw [if_neg (by decide), if_pos rfl]
    rw [e] at K
    exact br_f (by decide) (br_t (by decide) (x_ed hR hS lR lS bR bS K))
  · have e : cq_ou 3 S R = cq_md S [] := by unfold cq_ou; rw [if_neg (by decide), if_neg (by decide), cq_md0]
    rw [e] at K
    exact br_f (by decide) (br_f (by decide) (x_ei (O := []) hS (cq_nil _ _) lS (by decide) bS (fun x hx => absurd hx (List.not_mem_nil)) K))
theorem x_exL {post : SX → Prop} {cp ph nw jn pj ag ac op bc nc rc oc : Int32} {wk ws fo ff fc hd ts ks vs ba na ra oa : Nat → Int32} {s h : Nat} {lim : Int32} (hs : s < 2) (hh : hd s = nI h) (h12 : h ≤ 12)
    (K : post (cp, ph, nw, jn, pj, ag, ac, op, bc, nc, rc, oc, wk, ws, fo, ff, fc, upd hd s (nI (cq_ex (s * 12) lim ts ks vs h).2.2.2), (cq_ex (s * 12) lim ts ks vs h).1, (cq_ex (s * 12) lim ts ks vs h).2.1, (cq_ex (s * 12) lim ts ks vs h).2.2.1, ba, na, ra, oa)) :
    ∀ (d i n : Nat), i + d = h → d < n → wX_expire_28 post (nI s) lim n (nI (cq_ex (s * 12) lim ts ks vs i).2.2.2) (nI i) cp ph nw jn pj ag ac op bc nc rc oc wk ws fo ff fc hd ((cq_ex (s * 12) lim ts ks vs i).1) ((cq_ex (s * 12) lim ts ks vs i).2.1) ((cq_ex (s * 12) lim ts ks vs i).2.2.1) ba na ra oa := by
  have c1 : (nI s).toNatClampNeg = s := nI_clamp (by omega)
  have w1 : vp_in (nI s) 2 := vp_in_nI hs (by omega)
  intro d
  induction d with
  | zero =>
    intro i n hi hn
    obtain ⟨n, rfl⟩ : ∃ m, n = m + 1 := ⟨n - 1, by omega⟩
    have hi' : i = h := by omega
    subst hi'
    rw [wX_expire_28]
    refine ⟨w1, ?_⟩
    rw [c1, hh]
    exact br_t (nI_le (Nat.le_refl _) (by omega)) ⟨w1, nm_e K⟩
  | succ d ih =>
    intro i n hi hn
    obtain ⟨n, rfl⟩ : ∃ m, n = m + 1 := ⟨n - 1, by omega⟩
    have kl := cq_exl (s * 12) lim ts ks vs i
    have c2 : (nI (s * 12 + i)).toNatClampNeg = s * 12 + i := nI_clamp (by omega)
    have w2 : vp_in (nI (s * 12 + i)) 24 := vp_in_nI (by omega) (by omega)
    have H := ih (i + 1) n (by omega) (by omega)
    rw [wX_expire_28]
    refine ⟨w1, ?_⟩
    rw [c1, hh]
    refine br_f (nI_ge (by omega) (by omega)) (x_pl ⟨w2, ?_⟩)
    rw [c2]
    by_cases e : lim < (cq_ex (s * 12) lim ts ks vs i).1 (s * 12 + i)
    · rw [cq_ext e] at H
      exact br_f (Int32.not_le.mpr e) (x_move (by omega) (by omega) (nm_r (nI_1 _) (nm_r (nI_1 i) H)))
    · rw [cq_exf e] at H
      exact br_t (Int32.not_lt.mp e) (nm_r (nI_1 i) H)
def cq_xp (s : Nat) (wk ws : Nat → Int32) (nw : Int32) (q : (Nat → Int32) × (Nat → Int32) × (Nat → Int32) × (Nat → Int32)) : (Nat → Int32) × (Nat → Int32) × (Nat → Int32) × (Nat → Int32) :=
  if wk s = 1 then
    (upd q.1 s (nI (cq_ex (s * 12) (nw - ws s) q.2.1 q.2.2.1 q.2.2.2 (q.1 s).toNatClampNeg).2.2.2), (cq_ex (s * 12) (nw - ws s) q.2.1 q.2.2.1 q.2.2.2 (q.1 s).toNatClampNeg).1, (cq_ex (s * 12) (nw - ws s) q.2.1 q.2.2.1 q.2.2.2 (q.1 s).toNatClampNeg).2.1, (cq_ex (s * 12) (nw - ws s) q.2.1 q.2.2.1 q.2.2.2 (q.1 s).toNatClampNeg).2.2.1)
  else q
theorem x_exp {post : SX → Prop} {cp ph nw jn pj ag ac op bc nc rc oc : Int32} {wk ws fo ff fc hd ts ks vs ba na ra oa : Nat → Int32} {s h : Nat} (hs : s < 2) (hh : hd s = nI h) (h12 : h ≤ 12)
    (K : post (cp, ph, nw, jn, pj, ag, ac, op, bc, nc, rc, oc, wk, ws, fo, ff, fc, (cq_xp s wk ws nw (hd, ts, ks, vs)).1, (cq_xp s wk ws nw (hd, ts, ks, vs)).2.1, (cq_xp s wk ws nw (hd, ts, ks, vs)).2.2.1, (cq_xp s wk ws nw (hd, ts, ks, vs)).2.2.2, ba, na, ra, oa)) : wpX_expire post (cp, ph, nw, jn, pj, ag, ac, op, bc, nc, rc, oc, wk, ws, fo, ff, fc, hd, ts, ks, vs, ba, na, ra, oa) (nI s) := by
  have c1 : (nI s).toNatClampNeg = s := nI_clamp (by omega)
  have w1 : vp_in (nI s) 2 := vp_in_nI hs (by omega)
  have ch : (hd s).toNatClampNeg = h := by rw [hh]; exact nI_clamp (by omega)
  unfold wpX_expire
  dsimp only
  rw [c1]
  by_cases e : wk s = 1
  · unfold cq_xp at K
    rw [if_pos e] at K
    dsimp only at K
    rw [ch] at K
    refine ⟨w1, br_t e ⟨w1, nm_e ⟨h + 1, ?_⟩⟩⟩
    exact x_exL hs hh h12 K h 0 (h + 1) (by omega) (by omega)
  · unfold cq_xp at K
    rw [if_neg e] at K
    exact ⟨w1, br_f e K⟩
theorem x_step {post : Int32 → SX → Prop} {cp ph nw jn bc nc oc : Int32} {wk ws fo ff fc hd ts ks vs ba na ra oa : Nat → Int32} {K V : Nat → Nat} {p q : Nat → Bool} {jb : Bool} {h0 h1 o o' a co m t : Nat} {R : List Nat} (hph : ph = 1) (hK : ∀ j, ks j = nI (K j) ∧ K j < 16) (hV : ∀ j, vs j = nI (V j) ∧ V j < 256) (hh0 : hd 0 = nI h0) (h012 : h0 ≤ 12) (hh : hd 1 = nI h1) (h12 : h1 ≤ 12) (ho : o < 5) (hf : fo 1 = nI o) (ho' : o' < 5) (hf' : fo 0 = nI o') (hp : ∀ j, cq_ps (fo 0) (ff 0) (fc 0) (ks j) (vs j) = p j) (hq : ∀ j, cq_ps (fo 1) (ff 1) (fc 1) (ks (12 + j)) (vs (12 + j)) = q j) (hj0 : jn = 0 → jb = false) (hj1 : ¬ jn = 0 → jb = true)
    (ha : a < 3) (hco : co < 3) (hm1 : 1 ≤ m) (hm7 : m ≤ 7) (ht1 : 1 ≤ t) (ht3 : t ≤ 3) (hR : cq_S (cq_X ra) 0 R) (lR : R.length ≤ 144) (bR : ∀ x, x ∈ R → x < 268435456)
    (k : ∀ (S O : List Nat) (Q : (Nat → Int32) × (Nat → Int32) × (Nat → Int32) × (Nat → Int32)) (bc nc : Int32) (ba na ra oa : Nat → Int32), S = cq_nx a co m (cq_bs jb K V p q h1 h0) → O = cq_ou t S R → Q = cq_xp 1 wk ws (nw + 1) (cq_xp 0 wk ws (nw + 1) (hd, ts, ks, vs)) → cq_S (cq_X ra) 0 S → cq_S (cq_X oa) 0 O → post (nI O.length) (cp, ph, nw + 1, jn, nI m, nI a, nI co, nI t, bc, nc, nI S.length, nI O.length, wk, ws, fo, ff, fc, Q.1, Q.2.1, Q.2.2.1, Q.2.2.2, ba, na, ra, oa)) :
    wpX_step post (cp, ph, nw, jn, nI m, nI a, nI co, nI t, bc, nc, nI R.length, oc, wk, ws, fo, ff, fc, hd, ts, ks, vs, ba, na, ra, oa) := by
  have lB := cq_bsl jb K V p q h12 h0
  have bB := cq_bsB (fun i => (hK i).2) (fun i => (hV i).2) jb p q h1 h0
  have lS := cq_nxl (ag := a) (co := co) (m := m) (B := cq_bs jb K V p q h1 h0) (by omega)
  have bS := cq_nxb (ag := a) (m := m) bB (by omega) hco
  unfold wpX_step
  refine br_t hph ?_
  refine x_col hK hV hh0 h012 hh h12 ho hf ho' hf' hp hq hj0 hj1 (fun ba' hba => ?_)
  refine x_der (by omega) hba bB ha hco hm1 hm7 (fun na' hna => ?_)
  refine x_emit ht1 ht3 hna hR lS lR bS bR (fun oa' hoa => ?_)
  refine x_rep lS hna (fun ra' hra => ?_)
  refine nm_e ?_
  refine x_exp (s := 0) (h := h0) (by decide) hh0 h012 ?_
  have hx : ∃ h', h' ≤ 12 ∧ (cq_xp 0 wk ws (nw + 1) (hd, ts, ks, vs)).1 1 = nI h' := by
    unfold cq_xp
    split
    · exact ⟨h1, h12, by dsimp only; rw [pk_un (by decide)]; exact hh⟩
    · exact ⟨h1, h12, hh⟩
  obtain ⟨h', h12', hh'⟩ := hx
  refine x_exp (s := 1) (h := h') (by decide) hh' h12' ?_
  exact k _ _ _ _ _ _ _ _ _ rfl rfl rfl hra hoa
