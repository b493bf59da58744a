/-! invariants under the small changes -/
theorem cq_cfU {c s h' : Nat} {wk ws fo hd : Nat → Int32} (h : cq_cf c wk ws fo hd) (hh : h' ≤ c) : cq_cf c wk ws fo (upd hd s (nI h')) := by
  intro s' hs'
  obtain ⟨a, b, d, e⟩ := h s' hs'
  refine ⟨a, b, d, ?_⟩
  by_cases e' : s' = s
  · exact ⟨h', hh, by rw [e', pk_us]⟩
  · obtain ⟨x, hx, ex⟩ := e
    exact ⟨x, hx, by rw [pk_un e']; exact ex⟩
theorem cq_cfW {c s z : Nat} {kd : Int32} {wk ws fo hd : Nat → Int32} (h : cq_cf c wk ws fo hd) (hkd : kd = 1 ∨ kd = 2) (h1 : 1 ≤ z) (h2 : z < 2 ^ 31) (h3 : kd = 2 → z ≤ c) : cq_cf c (upd wk s kd) (upd ws s (nI z)) fo hd := by
  intro s' hs'
  obtain ⟨a, b, d, e⟩ := h s' hs'
  by_cases e' : s' = s
  · subst e'
    rw [pk_us, pk_us]
    exact ⟨hkd, ⟨z, h1, h2, rfl, h3⟩, d, e⟩
  · rw [pk_un e', pk_un e']
    exact ⟨a, b, d, e⟩
theorem cq_cfF {c s o : Nat} {wk ws fo hd : Nat → Int32} (h : cq_cf c wk ws fo hd) (ho : o < 5) : cq_cf c wk ws (upd fo s (nI o)) hd := by
  intro s' hs'
  obtain ⟨a, b, d, e⟩ := h s' hs'
  refine ⟨a, b, ?_, e⟩
  by_cases e' : s' = s
  · exact ⟨o, ho, by rw [e', pk_us]⟩
  · obtain ⟨x, hx, ex⟩ := d
    exact ⟨x, hx, by rw [pk_un e']; exact ex⟩
theorem cq_cfD {c : Nat} {wk ws fo hd : Nat → Int32} (h1 : 2 ≤ c) (h2 : c ≤ 12) : cq_cf c (upd (upd wk 0 2) 1 2) (upd (upd ws 0 (nI c)) 1 (nI c)) (upd (upd fo 0 0) 1 0) (upd (upd hd 0 0) 1 0) := by
  have g : ∀ (f : Nat → Int32) (x : Int32) (s : Nat), s < 2 → upd (upd f 0 x) 1 x s = x := by
    intro f x s hs
    by_cases e : s = 1
    · rw [e, pk_us]
    · rw [pk_un e, show s = 0 by omega, pk_us]
  intro s hs
  rw [g _ _ s hs, g _ _ s hs, g _ _ s hs, g _ _ s hs]
  exact ⟨Or.inr rfl, ⟨c, by omega, by omega, rfl, fun _ => Nat.le_refl _⟩, ⟨0, by decide, rfl⟩, ⟨0, by omega, rfl⟩⟩
theorem cq_cfH {c : Nat} {wk ws fo hd : Nat → Int32} (h : cq_cf c wk ws fo hd) : cq_cf c wk ws fo (upd (upd hd 0 0) 1 0) :=
  cq_cfU (h' := 0) (cq_cfU (h' := 0) h (Nat.zero_le _)) (Nat.zero_le _)
theorem cq_lsE {ra oa rs ct : Nat → Int32} : cq_ls ra oa rs (upd (upd (upd (upd ct 0 0) 1 0) 2 0) 3 0) [] [] := by
  refine ⟨cq_nil _ _, cq_nil _ _, ⟨cq_nil _ _, ?_, Nat.zero_le _⟩, ⟨cq_nil _ _, ?_, Nat.zero_le _⟩, List.Pairwise.nil, fun x hx => absurd hx (List.not_mem_nil), fun x hx => absurd hx (List.not_mem_nil)⟩
  · rw [pk_un (by decide), pk_us]; exact nI_0.symm
  · rw [pk_us]; exact nI_0.symm
theorem cq_xpI {c s : Nat} {wk ws fo : Nat → Int32} {nw : Int32} {q : (Nat → Int32) × (Nat → Int32) × (Nat → Int32) × (Nat → Int32)} (hs : s < 2) (hc : c ≤ 12) (h : cq_cf c wk ws fo q.1) (hk : cq_ok 16 q.2.2.1) (hv : cq_ok 256 q.2.2.2) : cq_cf c wk ws fo (cq_xp s wk ws nw q).1 ∧ cq_ok 16 (cq_xp s wk ws nw q).2.2.1 ∧ cq_ok 256 (cq_xp s wk ws nw q).2.2.2 := by
  unfold cq_xp
  split
  · obtain ⟨_, _, _, x, hx, ex⟩ := h s hs
    have cx : (q.1 s).toNatClampNeg = x := by rw [ex]; exact nI_clamp (by omega)
    have hl := cq_exl (s * 12) (nw - ws s) q.2.1 q.2.2.1 q.2.2.2 x
    have hkv := cq_exk (b := s * 12) (lim := nw - ws s) (t := q.2.1) hk hv x
    dsimp only
    rw [cx]
    exact ⟨cq_cfU h (by omega), hkv.1, hkv.2⟩
  · exact ⟨h, hk, hv⟩
/-! defaults -/
theorem x_def1 {post : SX → Prop} {cp ph nw jn pj ag ac op bc nc rc oc : Int32} {wk ws fo ff fc hd ts ks vs ba na ra oa : Nat → Int32} {s n : Nat} (hs : s < 2) (h : wX_restoreDefaults_7 post cp ph nw jn pj ag ac op bc nc rc oc n (nI (s + 1)) (upd wk s 2) (upd ws s cp) (upd fo s 0) (upd ff s 0) (upd fc s 0) hd ts ks vs ba na ra oa) : wX_restoreDefaults_7 post cp ph nw jn pj ag ac op bc nc rc oc (n + 1) (nI s) wk ws fo ff fc hd ts ks vs ba na ra oa := by
  have c1 : (nI s).toNatClampNeg = s := nI_clamp (by omega)
  have w1 : vp_in (nI s) 2 := vp_in_nI hs (by omega)
  rw [wX_restoreDefaults_7]
  refine br_f (nI_ge (b := 2) hs (by decide)) ⟨w1, ?_⟩
  rw [c1]
  exact nm_e ⟨w1, nm_e ⟨w1, nm_e ⟨w1, nm_e ⟨w1, nm_e (nm_r (nI_1 s) h)⟩⟩⟩⟩
theorem x_clr {post : SX → Prop} {cp ph nw jn pj ag ac op bc nc rc oc : Int32} {wk ws fo ff fc hd ts ks vs ba na ra oa : Nat → Int32} (h : post (cp, ph, 0, jn, pj, ag, ac, op, bc, nc, 0, 0, wk, ws, fo, ff, fc, upd (upd hd 0 0) 1 0, ts, ks, vs, ba, na, ra, oa)) : wpX_clearRun post (cp, ph, nw, jn, pj, ag, ac, op, bc, nc, rc, oc, wk, ws, fo, ff, fc, hd, ts, ks, vs, ba, na, ra, oa) := by
  unfold wpX_clearRun
  exact nm_e (nm_e h)
theorem x_def {post : SX → Prop} {cp ph nw jn pj ag ac op bc nc rc oc : Int32} {wk ws fo ff fc hd ts ks vs ba na ra oa : Nat → Int32} (h : post (cp, 0, 0, 0, 7, 0, 0, 1, bc, nc, 0, 0, upd (upd wk 0 2) 1 2, upd (upd ws 0 cp) 1 cp, upd (upd fo 0 0) 1 0, upd (upd ff 0 0) 1 0, upd (upd fc 0 0) 1 0, upd (upd hd 0 0) 1 0, ts, ks, vs, ba, na, ra, oa)) : wpX_restoreDefaults post (cp, ph, nw, jn, pj, ag, ac, op, bc, nc, rc, oc, wk, ws, fo, ff, fc, hd, ts, ks, vs, ba, na, ra, oa) := by
  unfold wpX_restoreDefaults
  refine ⟨3, x_def1 (s := 0) (by decide) (x_def1 (s := 1) (by decide) ?_)⟩
  rw [wX_restoreDefaults_7]
  exact br_t (by decide) (x_clr h)
theorem y_def1 {post : SY → Prop} {cp ph nw jn pj ag ac op : Int32} {wk ws fo ff fc hd ts ks vs rs ct : Nat → Int32} {s n : Nat} (hs : s < 2) (h : wY_defaults_38 post cp ph nw jn pj ag ac op n (nI (s + 1)) (upd wk s 2) (upd ws s cp) (upd fo s 0) (upd ff s 0) (upd fc s 0) (upd hd s 0) ts ks vs rs ct) : wY_defaults_38 post cp ph nw jn pj ag ac op (n + 1) (nI s) wk ws fo ff fc hd ts ks vs rs ct := by
  have c1 : (nI s).toNatClampNeg = s := nI_clamp (by omega)
  have w1 : vp_in (nI s) 2 := vp_in_nI hs (by omega)
  rw [wY_defaults_38]
  refine br_f (nI_ge (b := 2) hs (by decide)) ⟨w1, ?_⟩
  rw [c1]
  exact nm_e ⟨w1, nm_e ⟨w1, nm_e ⟨w1, nm_e ⟨w1, nm_e ⟨w1, nm_e (nm_r (nI_1 s) h)⟩⟩⟩⟩⟩
theorem y_def2 {post : SY → Prop} {cp ph nw jn pj ag ac op : Int32} {wk ws fo ff fc hd ts ks vs rs ct : Nat → Int32} {s n : Nat} (hs : s < 4) (h : wY_defaults_96 post cp ph nw jn pj ag ac op n (nI (s + 1)) wk ws fo ff fc hd ts ks vs rs (upd ct s 0)) : wY_defaults_96 post cp ph nw jn pj ag ac op (n + 1) (nI s) wk ws fo ff fc hd ts ks vs rs ct := by
  have c1 : (nI s).toNatClampNeg = s := nI_clamp (by omega)
  have w1 : vp_in (nI s) 4 := vp_in_nI hs (by omega)
  rw [wY_defaults_96]
  refine br_f (nI_ge (b := 4) hs (by decide)) ⟨w1, ?_⟩
  rw [c1]
  exact nm_e (nm_r (nI_1 s) h)
theorem y_def {post : SY → Prop} {cp ph nw jn pj ag ac op : Int32} {wk ws fo ff fc hd ts ks vs rs ct : Nat → Int32} (h : post (cp, 0, 0, 0, 7, 0, 0, 1, upd (upd wk 0 2) 1 2, upd (upd ws 0 cp) 1 cp, upd (upd fo 0 0) 1 0, upd (upd ff 0 0) 1 0, upd (upd fc 0 0) 1 0, upd (upd hd 0 0) 1 0, ts, ks, vs, rs, upd (upd (upd (upd ct 0 0) 1 0) 2 0) 3 0)) : wpY_defaults post (cp, ph, nw, jn, pj, ag, ac, op, wk, ws, fo, ff, fc, hd, ts, ks, vs, rs, ct) := by
  unfold wpY_defaults
  refine ⟨3, y_def1 (s := 0) (by decide) (y_def1 (s := 1) (by decide) ?_)⟩
  rw [wY_defaults_38]
  refine br_t (by decide) ⟨5, y_def2 (s := 0) (by decide) (y_def2 (s := 1) (by decide) (y_def2 (s := 2) (by decide) (y_def2 (s := 3) (by decide) ?_)))⟩
  rw [wY_defaults_96]
  exact br_t (by decide) h
theorem y_com1 {post : Int32 → SY → Prop} {cp ph nw jn pj ag ac op : Int32} {wk ws fo ff fc hd ts ks vs rs ct : Nat → Int32} {s n : Nat} (hs : s < 4) (h : wY_compile_61 post cp ph nw jn pj ag ac op n (nI (s + 1)) wk ws fo ff fc hd ts ks vs rs (upd ct s 0)) : wY_compile_61 post cp ph nw jn pj ag ac op (n + 1) (nI s) wk ws fo ff fc hd ts ks vs rs ct := by
  have c1 : (nI s).toNatClampNeg = s := nI_clamp (by omega)
  have w1 : vp_in (nI s) 4 := vp_in_nI hs (by omega)
  rw [wY_compile_61]
  refine br_f (nI_ge (b := 4) hs (by decide)) ⟨w1, ?_⟩
  rw [c1]
  exact nm_e (nm_r (nI_1 s) h)
theorem y_com {post : Int32 → SY → Prop} {cp ph nw jn pj ag ac op : Int32} {wk ws fo ff fc hd ts ks vs rs ct : Nat → Int32} (h : post 0 (cp, 1, 0, jn, pj, ag, ac, op, wk, ws, fo, ff, fc, upd (upd hd 0 0) 1 0, ts, ks, vs, rs, upd (upd (upd (upd ct 0 0) 1 0) 2 0) 3 0)) : wY_compile_35 post cp ph nw jn pj ag ac op wk ws fo ff fc hd ts ks vs rs ct := by
  unfold wY_compile_35
  refine nm_e (nm_e ⟨5, y_com1 (s := 0) (by decide) (y_com1 (s := 1) (by decide) (y_com1 (s := 2) (by decide) (y_com1 (s := 3) (by decide) ?_)))⟩)
  rw [wY_compile_61]
  exact br_t (by decide) h
/-! a tuple arrives: the component -/
theorem x_remL {post : SX → Prop} {cp ph nw jn pj ag ac op bc nc rc oc : Int32} {wk ws fo ff fc hd ts ks vs ba na ra oa : Nat → Int32} {s h : Nat} (hs : s < 2) (hh : hd s = nI h) (h0 : 1 ≤ h) (h12 : h ≤ 12) (K : post (cp, ph, nw, jn, pj, ag, ac, op, bc, nc, rc, oc, wk, ws, fo, ff, fc, upd hd s (nI (h - 1)), cq_rm (s * 12) ts (h - 1), cq_rm (s * 12) ks (h - 1), cq_rm (s * 12) vs (h - 1), ba, na, ra, oa)) :
    ∀ (d j n : Nat), j + 1 + d = h → d < n → wX_removeOldest_2 post (nI s) n (nI (j + 1)) cp ph nw jn pj ag ac op bc nc rc oc wk ws fo ff fc hd (cq_rm (s * 12) ts j) (cq_rm (s * 12) ks j) (cq_rm (s * 12) vs j) ba na ra oa := by
  have c1 : (nI s).toNatClampNeg = s := nI_clamp (by omega)
  have w1 : vp_in (nI s) 2 := vp_in_nI hs (by omega)
  intro d
  induction d with
  | zero =>
    intro j n hj hn
    obtain ⟨n, rfl⟩ : ∃ m, n = m + 1 := ⟨n - 1, by omega⟩
    have hj' : j = h - 1 := by omega
    subst hj'
    have e1 : nI h - 1 = nI (h - 1) := pk_sub (b := 1) h0
    rw [wX_removeOldest_2]
    refine ⟨w1, ?_⟩
    rw [c1, hh, e1]
    exact br_t (nI_le (by omega) (by omega)) ⟨w1, w1, nm_e K⟩
  | succ d ih =>
    intro j n hj hn
    obtain ⟨n, rfl⟩ : ∃ m, n = m + 1 := ⟨n - 1, by omega⟩
    rw [wX_removeOldest_2]
    refine ⟨w1, ?_⟩
    rw [c1, hh, nI_pred]
    exact br_f (nI_ge (by omega) (by omega)) (x_move (by omega) (by omega) (nm_r (nI_1 (j + 1)) (ih (j + 1) n (by omega) (by omega))))
theorem x_rem {post : SX → Prop} {cp ph nw jn pj ag ac op bc nc rc oc : Int32} {wk ws fo ff fc hd ts ks vs ba na ra oa : Nat → Int32} {s h : Nat} (hs : s < 2) (hh : hd s = nI h) (h0 : 1 ≤ h) (h12 : h ≤ 12) (K : post (cp, ph, nw, jn, pj, ag, ac, op, bc, nc, rc, oc, wk, ws, fo, ff, fc, upd hd s (nI (h - 1)), cq_rm (s * 12) ts (h - 1), cq_rm (s * 12) ks (h - 1), cq_rm (s * 12) vs (h - 1), ba, na, ra, oa)) : wpX_removeOldest post (cp, ph, nw, jn, pj, ag, ac, op, bc, nc, rc, oc, wk, ws, fo, ff, fc, hd, ts, ks, vs, ba, na, ra, oa) (nI s) := by
  unfold wpX_removeOldest
  exact ⟨h + 1, x_remL hs hh h0 h12 K (h - 1) 0 (h + 1) (by omega) (by omega)⟩
theorem x_app {post : SX → Prop} {cp ph nw jn pj ag ac op bc nc rc oc : Int32} {wk ws fo ff fc hd ts ks vs ba na ra oa : Nat → Int32} {s h : Nat} {k v : Int32} (hs : s < 2) (hh : hd s = nI h) (h12 : h < 12) (K : post (cp, ph, nw, jn, pj, ag, ac, op, bc, nc, rc, oc, wk, ws, fo, ff, fc, upd hd s (nI (h + 1)), upd ts (s * 12 + h) nw, upd ks (s * 12 + h) k, upd vs (s * 12 + h) v, ba, na, ra, oa)) : wpX_append post (cp, ph, nw, jn, pj, ag, ac, op, bc, nc, rc, oc, wk, ws, fo, ff, fc, hd, ts, ks, vs, ba, na, ra, oa) (nI s) k v := by
  have c1 : (nI s).toNatClampNeg = s := nI_clamp (by omega)
  have w1 : vp_in (nI s) 2 := vp_in_nI hs (by omega)
  have c2 : (nI (s * 12 + h)).toNatClampNeg = s * 12 + h := nI_clamp (by omega)
  have w2 : vp_in (nI (s * 12 + h)) 24 := vp_in_nI (by omega) (by omega)
  unfold wpX_append
  dsimp only
  rw [c1, hh]
  refine ⟨w1, x_pl ⟨w2, ?_⟩⟩
  rw [c2]
  exact nm_e ⟨w2, nm_e ⟨w2, nm_e ⟨w1, w1, nm_r (by rw [nI_1]) K⟩⟩⟩
/-! a tuple arrives: the reference -/
theorem y_225 {post : Int32 → SY → Prop} {cp ph nw jn pj ag ac op : Int32} {wk ws fo ff fc hd ts ks vs rs ct : Nat → Int32} {s h : Nat} {k v : Int32} (hs : s < 2) (hh : hd s = nI h) (h12 : h < 12) (K : post 0 (cp, ph, nw, jn, pj, ag, ac, op, wk, ws, fo, ff, fc, upd hd s (nI (h + 1)), upd ts (s * 12 + h) nw, upd ks (s * 12 + h) k, upd vs (s * 12 + h) v, rs, ct)) : wY_arrive_225 post (nI s) k v (nI (s * 12)) cp ph nw jn pj ag ac op wk ws fo ff fc hd ts ks vs rs ct := by
  have c1 : (nI s).toNatClampNeg = s := nI_clamp (by omega)
  have w1 : vp_in (nI s) 2 := vp_in_nI hs (by omega)
  have c2 : (nI (s * 12 + h)).toNatClampNeg = s * 12 + h := nI_clamp (by omega)
  have w2 : vp_in (nI (s * 12 + h)) 24 := vp_in_nI (by omega) (by omega)
  unfold wY_arrive_225
  rw [c1]
  refine ⟨w1, nm_r hh (br_t (nI_lt (b := 12) h12 (by decide)) ?_)⟩
  rw [nI_add, c2]
  exact ⟨w2, nm_e ⟨w2, nm_e ⟨w2, nm_e ⟨w1, nm_r (by rw [nI_1]) K⟩⟩⟩⟩
theorem y_121 {post : Int32 → SY → Prop} {cp ph nw jn pj ag ac op : Int32} {wk ws fo ff fc hd ts ks vs rs ct : Nat → Int32} {s h : Nat} {k v : Int32} (hs : s < 2) (hh : hd s = nI h) (h0 : 1 ≤ h) (h12 : h ≤ 12) (K : wY_arrive_225 post (nI s) k v (nI (s * 12)) cp ph nw jn pj ag ac op wk ws fo ff fc (upd hd s (nI (h - 1))) (cq_rm (s * 12) ts (h - 1)) (cq_rm (s * 12) ks (h - 1)) (cq_rm (s * 12) vs (h - 1)) rs ct) :
    ∀ (d j n : Nat), j + 1 + d = h → d < n → wY_arrive_121 post (nI s) k v (nI (s * 12)) cp ph nw jn pj ag ac op n (nI (j + 1)) wk ws fo ff fc hd (cq_rm (s * 12) ts j) (cq_rm (s * 12) ks j) (cq_rm (s * 12) vs j) rs ct := by
  have c1 : (nI s).toNatClampNeg = s := nI_clamp (by omega)
  have w1 : vp_in (nI s) 2 := vp_in_nI hs (by omega)
  intro d
  induction d with
  | zero =>
    intro j n hj hn
    obtain ⟨n, rfl⟩ : ∃ m, n = m + 1 := ⟨n - 1, by omega⟩
    have hj' : j = h - 1 := by omega
    subst hj'
    have e1 : nI h - 1 = nI (h - 1) := pk_sub (b := 1) h0
    rw [wY_arrive_121]
    refine ⟨w1, ?_⟩
    rw [c1, hh]
    refine br_t (nI_le (by omega) (by omega)) ?_
    unfold wY_arrive_211
    rw [c1, hh, e1]
    exact ⟨w1, w1, nm_e K⟩
  | succ d ih =>
    intro j n hj hn
    obtain ⟨n, rfl⟩ : ∃ m, n = m + 1 := ⟨n - 1, by omega⟩
    have e1 : nI (s * 12 + (j + 1)) - 1 = nI (s * 12 + j) := nI_pred (s * 12 + j)
    have c2 : (nI (s * 12 + (j + 1))).toNatClampNeg = s * 12 + (j + 1) := nI_clamp (by omega)
    have c3 : (nI (s * 12 + j)).toNatClampNeg = s * 12 + j := nI_clamp (by omega)
    have w2 : vp_in (nI (s * 12 + (j + 1))) 24 := vp_in_nI (by omega) (by omega)
    have w3 : vp_in (nI (s * 12 + j)) 24 := vp_in_nI (by omega) (by omega)
    have H := ih (j + 1) n (by omega) (by omega)
    rw [wY_arrive_121]
    refine ⟨w1, ?_⟩
    rw [c1, hh]
    refine br_f (nI_ge (by omega) (by omega)) (br_f (nI_ge (b := 12) (by omega) (by decide)) ?_)
    rw [nI_add, e1, c2, c3]
    exact ⟨w2, w3, nm_e ⟨w2, w3, nm_e ⟨w2, w3, nm_e (nm_r (nI_1 (j + 1)) H)⟩⟩⟩
