/-! the component: the next rows -/
theorem cq_Sof {a : Nat → Int32} {L : List Nat} (h : ∀ j, j < L.length → a j = nI (L.getD j 0)) : cq_S (cq_X a) 0 L := by
  intro j hj
  show a (0 + j) = _
  rw [Nat.zero_add]
  exact h j hj
theorem x_takeL {post : SX → Prop} {cp ph nw jn pj ag ac op nc rc oc : Int32} {wk ws fo ff fc hd ts ks vs ba ra oa : Nat → Int32} {L : List Nat} (hl : L.length ≤ 144) (hB : cq_S (cq_X ba) 0 L) (k : ∀ na', cq_S (cq_X na') 0 L → post (cp, ph, nw, jn, pj, ag, ac, op, nI L.length, nI L.length, rc, oc, wk, ws, fo, ff, fc, hd, ts, ks, vs, ba, na', ra, oa)) :
    ∀ (d i n : Nat) (na : Nat → Int32), i + d = L.length → d < n → (∀ j, j < i → na j = nI (L.getD j 0)) → wX_takeBaseRows_2 post cp ph nw jn pj ag ac op (nI L.length) nc rc oc n (nI i) wk ws fo ff fc hd ts ks vs ba na ra oa := by
  intro d
  induction d with
  | zero =>
    intro i n na hi hn hS
    obtain ⟨n, rfl⟩ : ∃ m, n = m + 1 := ⟨n - 1, by omega⟩
    rw [wX_takeBaseRows_2]
    exact br_t (nI_le (by omega) (by omega)) (k na (cq_Sof (fun j hj => hS j (by omega))))
  | succ d ih =>
    intro i n na hi hn hS
    obtain ⟨n, rfl⟩ : ∃ m, n = m + 1 := ⟨n - 1, by omega⟩
    have c1 : (nI i).toNatClampNeg = i := nI_clamp (by omega)
    have w1 : vp_in (nI i) 144 := vp_in_nI (by omega) (by omega)
    rw [wX_takeBaseRows_2]
    refine br_f (nI_ge (by omega) (by omega)) ⟨w1, w1, nm_r (e' := upd na i (nI (L.getD i 0))) (by rw [c1, cq_Xg hB (by omega)]) (nm_r (nI_1 i) (ih (i + 1) n _ (by omega) (by omega) (fun j hj => ?_)))⟩
    by_cases e : j = i
    · rw [e, pk_us]
    · rw [pk_un e]; exact hS j (by omega)
theorem x_take {post : SX → Prop} {cp ph nw jn pj ag ac op nc rc oc : Int32} {wk ws fo ff fc hd ts ks vs ba na ra oa : Nat → Int32} {L : List Nat} (hl : L.length ≤ 144) (hB : cq_S (cq_X ba) 0 L) (k : ∀ na', cq_S (cq_X na') 0 L → post (cp, ph, nw, jn, pj, ag, ac, op, nI L.length, nI L.length, rc, oc, wk, ws, fo, ff, fc, hd, ts, ks, vs, ba, na', ra, oa)) : wpX_takeBaseRows post (cp, ph, nw, jn, pj, ag, ac, op, nI L.length, nc, rc, oc, wk, ws, fo, ff, fc, hd, ts, ks, vs, ba, na, ra, oa) := by
  have H := x_takeL (post := post) (nc := nc) hl hB k L.length 0 (L.length + 1) na (by omega) (by omega) (fun j hj => absurd hj (Nat.not_lt_zero j))
  unfold wpX_takeBaseRows
  exact ⟨L.length + 1, H⟩
theorem x_repL {post : SX → Prop} {cp ph nw jn pj ag ac op bc rc oc : Int32} {wk ws fo ff fc hd ts ks vs ba na oa : Nat → Int32} {L : List Nat} (hl : L.length ≤ 144) (hB : cq_S (cq_X na) 0 L) (k : ∀ ra', cq_S (cq_X ra') 0 L → post (cp, ph, nw, jn, pj, ag, ac, op, bc, nI L.length, nI L.length, oc, wk, ws, fo, ff, fc, hd, ts, ks, vs, ba, na, ra', oa)) :
    ∀ (d i n : Nat) (ra : Nat → Int32), i + d = L.length → d < n → (∀ j, j < i → ra j = nI (L.getD j 0)) → wX_replaceRelation_2 post cp ph nw jn pj ag ac op bc (nI L.length) rc oc n (nI i) wk ws fo ff fc hd ts ks vs ba na ra oa := by
  intro d
  induction d with
  | zero =>
    intro i n ra hi hn hS
    obtain ⟨n, rfl⟩ : ∃ m, n = m + 1 := ⟨n - 1, by omega⟩
    rw [wX_replaceRelation_2]
    exact br_t (nI_le (by omega) (by omega)) (k ra (cq_Sof (fun j hj => hS j (by omega))))
  | succ d ih =>
    intro i n ra hi hn hS
    obtain ⟨n, rfl⟩ : ∃ m, n = m + 1 := ⟨n - 1, by omega⟩
    have c1 : (nI i).toNatClampNeg = i := nI_clamp (by omega)
    have w1 : vp_in (nI i) 144 := vp_in_nI (by omega) (by omega)
    rw [wX_replaceRelation_2]
    refine br_f (nI_ge (by omega) (by omega)) ⟨w1, w1, nm_r (e' := upd ra i (nI (L.getD i 0))) (by rw [c1, cq_Xg hB (by omega)]) (nm_r (nI_1 i) (ih (i + 1) n _ (by omega) (by omega) (fun j hj => ?_)))⟩
    by_cases e : j = i
    · rw [e, pk_us]
    · rw [pk_un e]; exact hS j (by omega)
theorem x_rep {post : SX → Prop} {cp ph nw jn pj ag ac op bc rc oc : Int32} {wk ws fo ff fc hd ts ks vs ba na ra oa : Nat → Int32} {L : List Nat} (hl : L.length ≤ 144) (hB : cq_S (cq_X na) 0 L) (k : ∀ ra', cq_S (cq_X ra') 0 L → post (cp, ph, nw, jn, pj, ag, ac, op, bc, nI L.length, nI L.length, oc, wk, ws, fo, ff, fc, hd, ts, ks, vs, ba, na, ra', oa)) : wpX_replaceRelation post (cp, ph, nw, jn, pj, ag, ac, op, bc, nI L.length, rc, oc, wk, ws, fo, ff, fc, hd, ts, ks, vs, ba, na, ra, oa) := by
  have H := x_repL (post := post) (rc := rc) hl hB k L.length 0 (L.length + 1) ra (by omega) (by omega) (fun j hj => absurd hj (Nat.not_lt_zero j))
  unfold wpX_replaceRelation
  exact ⟨L.length + 1, H⟩
theorem x_pack {post : Int32 → Prop} {a b c : Nat} (ha : a < 16) (hb : b < 65536) (hc : c < 256) (h : post (nI (cq_pk a b c))) : wpX_packRow post (nI a) (nI b) (nI c) := by
  unfold wpX_packRow
  rw [cq_pack ha hb hc]
  exact h
theorem x_clm {post : Int32 → Prop} {p c : Nat} (hp : p < 268435456) (hc : c < 3) (h : post (nI (cq_cl c p))) : wpX_columnOf post (nI p) (nI c) := by
  unfold wpX_columnOf
  match c, hc with
  | 0, _ => exact br_t (by decide) (by rw [cq_col0 hp]; exact h)
  | 1, _ => exact br_f (by decide) (br_t (by decide) (by rw [cq_col1 hp]; exact h))
  | 2, _ => exact br_f (by decide) (br_f (by decide) (by rw [cq_col2 p]; exact h))
theorem x_gkL {post : SX → Prop} {cp ph nw jn pj op rc oc : Int32} {wk ws fo ff fc hd ts ks vs ba na ra oa : Nat → Int32} {k a co : Nat} {B : List Nat} (hl : B.length ≤ 144) (hB : cq_S (cq_X ba) 0 B) (hb : ∀ x, x ∈ B → cq_B x) (hk : k < 16) (ha : a < 3) (hco : co < 3) (hS : cq_S (cq_X na) 0 (cq_gp a co B k))
    (K : ∀ na', cq_S (cq_X na') 0 (cq_gp a co B (k + 1)) → post (cp, ph, nw, jn, pj, nI a, nI co, op, nI B.length, nI (cq_gp a co B (k + 1)).length, rc, oc, wk, ws, fo, ff, fc, hd, ts, ks, vs, ba, na', ra, oa)) :
    ∀ (d i n : Nat), i + d = B.length → d < n → wX_groupKey_7 post (nI k) cp ph nw jn pj (nI a) (nI co) op (nI B.length) (nI (cq_gp a co B k).length) rc oc wk ws fo ff fc hd ts ks vs ba na ra oa n (nI (cq_gc k (B.take i))) (nI (cq_gs co k (B.take i))) (nI i) := by
  intro d
  induction d with
  | zero =>
    intro i n hi hn
    obtain ⟨n, rfl⟩ : ∃ m, n = m + 1 := ⟨n - 1, by omega⟩
    have hi' : i = B.length := by omega
    subst hi'
    have g1 := cq_gcl k B
    have g2 := cq_gpl a co B k
    rw [List.take_length, wX_groupKey_7]
    refine br_t (nI_le (by omega) (by omega)) ?_
    by_cases e : 0 < cq_gc k B
    · have eg : cq_gp a co B (k + 1) = cq_gp a co B k ++ [cq_gr a co B k] := by rw [cq_gp, if_pos e]
      have el : (cq_gp a co B (k + 1)).length = (cq_gp a co B k).length + 1 := by rw [eg, List.length_append, List.length_singleton]
      have c1 : (nI (cq_gp a co B k).length).toNatClampNeg = (cq_gp a co B k).length := nI_clamp (by omega)
      have gb := cq_gb (ag := a) (k := k) hb hl hco
      have H := K (upd na (cq_gp a co B k).length (nI (cq_gr a co B k))) (by rw [eg]; exact cq_Xapp hS)
      rw [el] at H
      refine br_f (nI_nle e (by omega)) ?_
      have fin : ∀ z : Nat, z = (if a = 1 then cq_gc k B else cq_gs co k B) → wX_groupKey_74 post (nI k) (nI z) cp ph nw jn pj (nI a) (nI co) op (nI B.length) (nI (cq_gp a co B k).length) rc oc wk ws fo ff fc hd ts ks vs ba na ra oa := by
        intro z ez
        unfold wX_groupKey_74
        refine x_pack (c := 0) hk (by rw [ez]; exact gb) (by decide) ⟨vp_in_nI (by omega) (by omega), ?_⟩
        rw [c1]
        refine nm_r (e' := upd na (cq_gp a co B k).length (nI (cq_gr a co B k))) (by rw [ez]; rfl) (nm_r (nI_1 _) H)
      by_cases ea : a = 1
      · exact br_t (by rw [ea]; rfl) (fin _ (by rw [if_pos ea]))
      · exact br_f (by rw [show (1 : Int32) = nI 1 from rfl, nI_eq (by omega) (by omega)]; exact ea) (fin _ (by rw [if_neg ea]))
    · have eg : cq_gp a co B (k + 1) = cq_gp a co B k := by rw [cq_gp, if_neg e]
      have e0 : cq_gc k B = 0 := by omega
      have H := K na (by rw [eg]; exact hS)
      rw [eg] at H
      exact br_t (by rw [e0]; decide) H
  | succ d ih =>
    intro i n hi hn
    obtain ⟨n, rfl⟩ : ∃ m, n = m + 1 := ⟨n - 1, by omega⟩
    have c1 : (nI i).toNatClampNeg = i := nI_clamp (by omega)
    have w1 : vp_in (nI i) 144 := vp_in_nI (by omega) (by omega)
    have hx := hb _ (cq_gm (L := B) (i := i) (by omega))
    have b0 := cq_b0 hx.1
    have et := cq_tk (L := B) (i := i) (by omega)
    have H := ih (i + 1) n (by omega) (by omega)
    rw [et, cq_gca, cq_gsa] at H
    rw [wX_groupKey_7]
    refine br_f (nI_ge (by omega) (by omega)) ⟨w1, ?_⟩
    rw [c1, cq_Xg hB (by omega)]
    refine x_clm (c := 0) hx.1 (by decide) ?_
    by_cases e : cq_cl 0 (B.getD i 0) = k
    · rw [if_pos e, if_pos e] at H
      exact br_t (by rw [e]) (nm_r (nI_1 _) ⟨w1, x_clm hx.1 hco (nm_r (nI_add _ _) (nm_r (nI_1 i) H))⟩)
    · rw [if_neg e, if_neg e] at H
      exact br_f (by rw [nI_eq (by omega) (by omega)]; exact e) (nm_r (nI_1 i) H)
theorem x_gk {post : SX → Prop} {cp ph nw jn pj op rc oc : Int32} {wk ws fo ff fc hd ts ks vs ba na ra oa : Nat → Int32} {k a co : Nat} {B : List Nat} (hl : B.length ≤ 144) (hB : cq_S (cq_X ba) 0 B) (hb : ∀ x, x ∈ B → cq_B x) (hk : k < 16) (ha : a < 3) (hco : co < 3) (hS : cq_S (cq_X na) 0 (cq_gp a co B k))
    (K : ∀ na', cq_S (cq_X na') 0 (cq_gp a co B (k + 1)) → post (cp, ph, nw, jn, pj, nI a, nI co, op, nI B.length, nI (cq_gp a co B (k + 1)).length, rc, oc, wk, ws, fo, ff, fc, hd, ts, ks, vs, ba, na', ra, oa)) :
    wpX_groupKey post (cp, ph, nw, jn, pj, nI a, nI co, op, nI B.length, nI (cq_gp a co B k).length, rc, oc, wk, ws, fo, ff, fc, hd, ts, ks, vs, ba, na, ra, oa) (nI k) := by
  have H := x_gkL (post := post) hl hB hb hk ha hco hS K B.length 0 (B.length + 1) (by omega) (by omega)
  unfold wpX_groupKey
  exact ⟨B.length + 1, H⟩
theorem x_gpL {post : SX → Prop} {cp ph nw jn pj op rc oc : Int32} {wk ws fo ff fc hd ts ks vs ba ra oa : Nat → Int32} {a co : Nat} {B : List Nat} (hl : B.length ≤ 144) (hB : cq_S (cq_X ba) 0 B) (hb : ∀ x, x ∈ B → cq_B x) (ha : a < 3) (hco : co < 3)
    (K : ∀ na', cq_S (cq_X na') 0 (cq_gp a co B 16) → post (cp, ph, nw, jn, pj, nI a, nI co, op, nI B.length, nI (cq_gp a co B 16).length, rc, oc, wk, ws, fo, ff, fc, hd, ts, ks, vs, ba, na', ra, oa)) :
    ∀ (d k n : Nat) (na : Nat → Int32), k + d = 16 → d < n → cq_S (cq_X na) 0 (cq_gp a co B k) → wX_groupBaseRows_7 post n (nI k) cp ph nw jn pj (nI a) (nI co) op (nI B.length) (nI (cq_gp a co B k).length) rc oc wk ws fo ff fc hd ts ks vs ba na ra oa := by
  intro d
  induction d with
  | zero =>
    intro k n na hk hn hS
    obtain ⟨n, rfl⟩ : ∃ m, n = m + 1 := ⟨n - 1, by omega⟩
    have hk' : k = 16 := by omega
    subst hk'
    rw [wX_groupBaseRows_7]
    exact br_t (by decide) (K na hS)
  | succ d ih =>
    intro k n na hk hn hS
    obtain ⟨n, rfl⟩ : ∃ m, n = m + 1 := ⟨n - 1, by omega⟩
    rw [wX_groupBaseRows_7]
    exact br_f (nI_nlt (b := k) (a := 15) (by omega) (by omega)) (x_gk hl hB hb (by omega) ha hco hS (fun na' hS' => nm_r (nI_1 k) (ih (k + 1) n na' (by omega) (by omega) hS')))
theorem x_gp {post : SX → Prop} {cp ph nw jn pj op nc rc oc : Int32} {wk ws fo ff fc hd ts ks vs ba na ra oa : Nat → Int32} {a co : Nat} {B : List Nat} (hl : B.length ≤ 144) (hB : cq_S (cq_X ba) 0 B) (hb : ∀ x, x ∈ B → cq_B x) (ha : a < 3) (hco : co < 3)
    (K : ∀ na', cq_S (cq_X na') 0 (cq_gp a co B 16) → post (cp, ph, nw, jn, pj, nI a, nI co, op, nI B.length, nI (cq_gp a co B 16).length, rc, oc, wk, ws, fo, ff, fc, hd, ts, ks, vs, ba, na', ra, oa)) : wpX_groupBaseRows post (cp, ph, nw, jn, pj, nI a, nI co, op, nI B.length, nc, rc, oc, wk, ws, fo, ff, fc, hd, ts, ks, vs, ba, na, ra, oa) := by
  have H := x_gpL (post := post) hl hB hb ha hco K 16 0 17 na (by omega) (by omega) (cq_nil _ _)
  unfold wpX_groupBaseRows
  exact ⟨17, H⟩
theorem x_prL {post : SX → Prop} {cp ph nw jn pj ag ac op bc rc oc : Int32} {wk ws fo ff fc hd ts ks vs ba ra oa : Nat → Int32} {m : Nat} {L : List Nat} (hl : L.length ≤ 144) (k : ∀ na', cq_S (cq_X na') 0 (L.map (cq_pr m)) → post (cp, ph, nw, jn, pj, ag, ac, op, bc, nI L.length, rc, oc, wk, ws, fo, ff, fc, hd, ts, ks, vs, ba, na', ra, oa)) :
    ∀ (d i n : Nat) (na : Nat → Int32), i + d = L.length → d < n → (∀ j, j < i → na j = nI (cq_pr m (L.getD j 0))) → (∀ j, i ≤ j → j < L.length → na j = nI (L.getD j 0)) → wX_projectNextRows_59 post (nI (cq_mk m)) cp ph nw jn pj ag ac op bc (nI L.length) rc oc n (nI i) wk ws fo ff fc hd ts ks vs ba na ra oa := by
  intro d
  induction d with
  | zero =>
    intro i n na hi hn h1 h2
    obtain ⟨n, rfl⟩ : ∃ m, n = m + 1 := ⟨n - 1, by omega⟩
    rw [wX_projectNextRows_59]
    refine br_t (nI_le (by omega) (by omega)) (k na (cq_Sof (fun j hj => ?_)))
    rw [List.length_map] at hj
    rw [cq_gmap hj]
    exact h1 j (by omega)
  | succ d ih =>
    intro i n na hi hn h1 h2
    obtain ⟨n, rfl⟩ : ∃ m, n = m + 1 := ⟨n - 1, by omega⟩
    have c1 : (nI i).toNatClampNeg = i := nI_clamp (by omega)
    have w1 : vp_in (nI i) 144 := vp_in_nI (by omega) (by omega)
    rw [wX_projectNextRows_59]
    refine br_f (nI_ge (by omega) (by omega)) ⟨w1, w1, nm_r (e' := upd na i (nI (cq_pr m (L.getD i 0)))) ?_ (nm_r (nI_1 i) (ih (i + 1) n _ (by omega) (by omega) (fun j hj => ?_) (fun j hj1 hj2 => ?_)))⟩
    · rw [c1, h2 i (Nat.le_refl _) (by omega), nx_and]
      rfl
    · by_cases e : j = i
      · rw [e, pk_us]
      · rw [pk_un e]; exact h1 j (by omega)
    · rw [pk_un (by omega)]; exact h2 j (by omega) hj2
theorem cq_mk1 : (((0 : Int32) ||| 251658240) ||| 0) ||| 0 = nI (cq_mk 1) := by decide
theorem cq_mk2 : (((0 : Int32) ||| 0) ||| 16776960) ||| 0 = nI (cq_mk 2) := by decide
theorem cq_mk3 : (((0 : Int32) ||| 251658240) ||| 16776960) ||| 0 = nI (cq_mk 3) := by decide
theorem cq_mk4 : (((0 : Int32) ||| 0) ||| 0) ||| 255 = nI (cq_mk 4) := by decide
theorem cq_mk5 : (((0 : Int32) ||| 251658240) ||| 0) ||| 255 = nI (cq_mk 5) := by decide
theorem cq_mk6 : (((0 : Int32) ||| 0) ||| 16776960) ||| 255 = nI (cq_mk 6) := by decide
theorem cq_mk7 : (((0 : Int32) ||| 251658240) ||| 16776960) ||| 255 = nI (cq_mk 7) := by decide
theorem x_pr {post : SX → Prop} {cp ph nw jn ag ac op bc rc oc : Int32} {wk ws fo ff fc hd ts ks vs ba na ra oa : Nat → Int32} {m : Nat} {L : List Nat} (hm1 : 1 ≤ m) (hm7 : m ≤ 7) (hl : L.length ≤ 144) (hS : cq_S (cq_X na) 0 L) (k : ∀ na', cq_S (cq_X na') 0 (L.map (cq_pr m)) → post (cp, ph, nw, jn, nI m, ag, ac, op, bc, nI L.length, rc, oc, wk, ws, fo, ff, fc, hd, ts, ks, vs, ba, na', ra, oa)) : wpX_projectNextRows post (cp, ph, nw, jn, nI m, ag, ac, op, bc, nI L.length, rc, oc, wk, ws, fo, ff, fc, hd, ts, ks, vs, ba, na, ra, oa) := by
  have H : ∀ M : Int32, M = nI (cq_mk m) → ∃ n59 : Nat, wX_projectNextRows_59 post M cp ph nw jn (nI m) ag ac op bc (nI L.length) rc oc n59 0 wk ws fo ff fc hd ts ks vs ba na ra oa := by
    intro M e
    subst e
    exact ⟨L.length + 1, x_prL (post := post) hl k L.length 0 (L.length + 1) na (by omega) (by omega) (fun j hj => absurd hj (Nat.not_lt_zero j)) (fun j _ hj => cq_Xg hS hj)⟩
  unfold wpX_projectNextRows
  have hm : m = 1 ∨ m = 2 ∨ m = 3 ∨ m = 4 ∨ m = 5 ∨ m = 6 ∨ m = 7 := by omega
  rcases hm with rfl | rfl | rfl | rfl | rfl | rfl | rfl
  · exact br_f (by decide) (nm_e (br_t (by decide) (nm_e (br_t (by decide) (nm_e (H _ cq_mk1))))))
  · exact br_t (by decide) (nm_e (br_f (by decide) (nm_e (br_t (by decide) (nm_e (H _ cq_mk2))))))
  · exact br_f (by decide) (nm_e (br_f (by decide) (nm_e (br_t (by decide) (nm_e (H _ cq_mk3))))))
  · exact br_t (by decide) (nm_e (br_t (by decide) (nm_e (br_f (by decide) (nm_e (H _ cq_mk4))))))
  · exact br_f (by decide) (nm_e (br_t (by decide) (nm_e (br_f (by decide) (nm_e (H _ cq_mk5))))))
  · exact br_t (by decide) (nm_e (br_f (by decide) (nm_e (br_f (by decide) (nm_e (H _ cq_mk6))))))
  · exact br_f (by decide) (nm_e (br_f (by decide) (nm_e (br_f (by decide) (nm_e (H _ cq_mk7))))))
theorem x_soI {post : SX → Prop} {J : _} {cp ph nw jn pj ag ac op bc nc rc oc : Int32} {wk ws fo ff fc hd ts ks vs ba ra oa : Nat → Int32} {i w v : Nat} {f0 : Nat → Nat} (hi : i < w) (hw : w ≤ 144) (hv : v < 268435456)
    (K : ∀ (na' : Nat → Int32) (f : Nat → Nat), List.Perm (cq_L w f) (cq_L w f0) → (∀ q, q < w → f q < 268435456) → (∀ p q, p < q → q ≤ i → f p ≤ f q) → (∀ q, q < w → na' q = nI (f q)) → J (nI (i + 1)) wk ws fo ff fc hd ts ks vs ba na' ra oa) :
    ∀ (t n : Nat) (na : Nat → Int32) (f : Nat → Nat), t ≤ i → t < n → List.Perm (cq_L w f) (cq_L w f0) → (∀ q, q < w → f q < 268435456) → (∀ p q, p < q → q ≤ i → q ≠ t → f p ≤ f q) → (∀ q, q < w → q ≠ t → na q = nI (f q)) → f t = v → wX_sortNextRows_19 post J (nI i) (nI v) cp ph nw jn pj ag ac op bc nc rc oc n (nI t) wk ws fo ff fc hd ts ks vs ba na ra oa := by
  intro t
  induction t with
  | zero =>
    intro n na f ht hn hP hb hs ha hv'
    obtain ⟨n, rfl⟩ : ∃ m, n = m + 1 := ⟨n - 1, by omega⟩
    rw [wX_sortNextRows_19]
    refine br_t (by decide) ⟨vp_in_nI (by omega) (by omega), nm_r (e' := upd na 0 (nI v)) (by rw [nI_clamp (by omega)]) (nm_r (nI_1 i) (K _ f hP hb (cq_mov0 hs (by omega) (Or.inl rfl)) (fun q hq => ?_)))⟩
    by_cases e : q = 0
    · rw [e, pk_us, hv']
    · rw [pk_un e]; exact ha q hq e
  | succ t ih =>
    intro n na f ht hn hP hb hs ha hv'
    obtain ⟨n, rfl⟩ : ∃ m, n = m + 1 := ⟨n - 1, by omega⟩
    have c1 : (nI t).toNatClampNeg = t := nI_clamp (by omega)
    have c2 : (nI (t + 1)).toNatClampNeg = t + 1 := nI_clamp (by omega)
    have w1 : vp_in (nI t) 144 := vp_in_nI (by omega) (by omega)
    have w2 : vp_in (nI (t + 1)) 144 := vp_in_nI (by omega) (by omega)
    have at1 := ha t (by omega) (by omega)
    have bt := hb t (by omega)
    rw [wX_sortNextRows_19]
    refine br_f (nI_nle (by omega) (by omega)) ?_
    rw [nI_pred, c1, c2, at1]
    refine ⟨w1, ?_⟩
    by_cases e : f t ≤ v
    · refine br_t (nI_le e (by omega)) ⟨w2, nm_e (nm_r (nI_1 i) (K _ f hP hb (cq_mov0 hs (by omega) (Or.inr (by rw [hv', Nat.add_sub_cancel]; exact e))) (fun q hq => ?_)))⟩
      by_cases e2 : q = t + 1
      · rw [e2, pk_us, hv']
      · rw [pk_un e2]; exact ha q hq e2
    · refine br_f (nI_ge (by omega) (by omega)) ⟨w1, w2, nm_e (nm_r (pk_m1 t) (ih n _ (cq_sw f t (t + 1)) (by omega) (by omega) ((cq_swp (by omega) (by omega)).trans hP) (fun q hq => ?_) (cq_mov (by omega) hs (by rw [hv']; omega)) (fun q hq hqt => ?_) (by rw [cq_sw1]; exact hv')))⟩
      · unfold cq_sw
        split
        · exact hb _ (by omega)
        · split
          · exact bt
          · exact hb q hq
      · by_cases e2 : q = t + 1
        · rw [e2, pk_us, cq_sw2]
        · rw [pk_un e2, cq_sw3 hqt e2]; exact ha q hq e2
theorem x_soL {post : SX → Prop} {cp ph nw jn pj ag ac op bc rc oc : Int32} {wk ws fo ff fc hd ts ks vs ba ra oa : Nat → Int32} {w : Nat} {f0 : Nat → Nat} (hw : w ≤ 144)
    (K : ∀ na', cq_S (cq_X na') 0 (cq_so (cq_L w f0)) → post (cp, ph, nw, jn, pj, ag, ac, op, bc, nI w, rc, oc, wk, ws, fo, ff, fc, hd, ts, ks, vs, ba, na', ra, oa)) :
    ∀ (d i n : Nat) (na : Nat → Int32) (f : Nat → Nat), w ≤ i + d → i < 200 → d < n → List.Perm (cq_L w f) (cq_L w f0) → (∀ q, q < w → f q < 268435456) → (∀ p q, p < q → q < i → q < w → f p ≤ f q) → (∀ q, q < w → na q = nI (f q)) → wX_sortNextRows_2 post cp ph nw jn pj ag ac op bc (nI w) rc oc n (nI i) wk ws fo ff fc hd ts ks vs ba na ra oa := by
  have ex : ∀ (i n : Nat) (na : Nat → Int32) (f : Nat → Nat), w ≤ i → i < 200 → 0 < n → List.Perm (cq_L w f) (cq_L w f0) → (∀ p q, p < q → q < i → q < w → f p ≤ f q) → (∀ q, q < w → na q = nI (f q)) → wX_sortNextRows_2 post cp ph nw jn pj ag ac op bc (nI w) rc oc n (nI i) wk ws fo ff fc hd ts ks vs ba na ra oa := by
    intro i n na f hi hi2 hn hP hs ha
    obtain ⟨n, rfl⟩ : ∃ m, n = m + 1 := ⟨n - 1, by omega⟩
    rw [wX_sortNextRows_2]
    refine br_t (nI_le hi (by omega)) (K na ?_)
    rw [← cq_sou (cq_Ls (fun p q h1 h2 => hs p q h1 (by omega) h2)) hP]
    refine cq_Sof (fun j hj => ?_)
    rw [cq_Ll] at hj
    rw [cq_Lg hj]
    exact ha j hj
  intro d
  induction d with
  | zero =>
    intro i n na f hi hi2 hn hP hb hs ha
    exact ex i n na f (by omega) hi2 (by omega) hP hs ha
  | succ d ih =>
    intro i n na f hi hi2 hn hP hb hs ha
    by_cases e : w ≤ i
    · exact ex i n na f e hi2 (by omega) hP hs ha
    · obtain ⟨n, rfl⟩ : ∃ m, n = m + 1 := ⟨n - 1, by omega⟩
      have c1 : (nI i).toNatClampNeg = i := nI_clamp (by omega)
      rw [wX_sortNextRows_2]
      refine br_f (nI_ge (by omega) (by omega)) ⟨vp_in_nI (by omega) (by omega), nm_r (e' := nI (f i)) (by rw [c1]; exact ha i (by omega)) ⟨i + 1, ?_⟩⟩
      refine x_soI (w := w) (f0 := f0) (by omega) hw (hb i (by omega)) (fun na' f' hP' hb' hs' ha' => ih (i + 1) n na' f' (by omega) (by omega) (by omega) hP' hb' (fun p q h1 h2 h3 => hs' p q h1 (by omega)) ha') i (i + 1) na f (Nat.le_refl _) (by omega) hP hb (fun p q h1 h2 h3 => hs p q h1 (by omega) (by omega)) (fun q hq _ => ha q hq) rfl
theorem x_so {post : SX → Prop} {cp ph nw jn pj ag ac op bc rc oc : Int32} {wk ws fo ff fc hd ts ks vs ba na ra oa : Nat → Int32} {L : List Nat} (hl : L.length ≤ 144) (hb : ∀ x, x ∈ L → x < 268435456) (hS : cq_S (cq_X na) 0 L)
    (K : ∀ na', cq_S (cq_X na') 0 (cq_so L) → post (cp, ph, nw, jn, pj, ag, ac, op, bc, nI L.length, rc, oc, wk, ws, fo, ff, fc, hd, ts, ks, vs, ba, na', ra, oa)) : wpX_sortNextRows post (cp, ph, nw, jn, pj, ag, ac, op, bc, nI L.length, rc, oc, wk, ws, fo, ff, fc, hd, ts, ks, vs, ba, na, ra, oa) := by
  have e := cq_LE L
  have H := x_soL (post := post) (f0 := fun q => L.getD q 0) hl (by rw [e]; exact K) L.length 1 (L.length + 1) na (fun q => L.getD q 0) (by omega) (by omega) (by omega) (List.Perm.refl _) (fun q hq => hb _ (cq_gm hq)) (fun p q h1 h2 => by omega) (fun q hq => cq_Xg hS hq)
  unfold wpX_sortNextRows
  exact ⟨L.length + 1, H⟩
theorem x_der {post : SX → Prop} {cp ph nw jn op nc rc oc : Int32} {wk ws fo ff fc hd ts ks vs ba na ra oa : Nat → Int32} {a co m : Nat} {B : List Nat} (hl : B.length ≤ 144) (hB : cq_S (cq_X ba) 0 B) (hb : ∀ x, x ∈ B → cq_B x) (ha : a < 3) (hco : co < 3) (hm1 : 1 ≤ m) (hm7 : m ≤ 7)
    (K : ∀ na', cq_S (cq_X na') 0 (cq_nx a co m B) → post (cp, ph, nw, jn, nI m, nI a, nI co, op, nI B.length, nI (cq_nx a co m B).length, rc, oc, wk, ws, fo, ff, fc, hd, ts, ks, vs, ba, na', ra, oa)) : wpX_deriveNextRows post (cp, ph, nw, jn, nI m, nI a, nI co, op, nI B.length, nc, rc, oc, wk, ws, fo, ff, fc, hd, ts, ks, vs, ba, na, ra, oa) := by
  have l0 := cq_n0l (ag := a) (co := co) hl
  have b0 := cq_n0b (ag := a) hb hl hco
  have lx : ((cq_n0 a co B).map (cq_pr m)).length = (cq_n0 a co B).length := List.length_map _
  have fin : ∀ na' : Nat → Int32, cq_S (cq_X na') 0 (cq_n0 a co B) → wX_deriveNextRows_18 post cp ph nw jn (nI m) (nI a) (nI co) op (nI B.length) (nI (cq_n0 a co B).length) rc oc wk ws fo ff fc hd ts ks vs ba na' ra oa := by
    intro na' hS
    unfold wX_deriveNextRows_18
    refine x_pr hm1 hm7 l0 hS (fun na2 hS2 => ?_)
    dsimp only
    rw [← lx]
    refine x_so (by rw [lx]; exact l0) (fun x hx => ?_) hS2 (fun na3 hS3 => ?_)
    · obtain ⟨y, hy, e⟩ := List.mem_map.mp hx
      rw [← e]
      exact cq_prb (b0 y hy)
    · have el : ((cq_n0 a co B).map (cq_pr m)).length = (cq_nx a co m B).length := (cq_sol _).symm
      rw [el]
      exact K na3 hS3
  unfold wpX_deriveNextRows
  by_cases ea : a = 0
  · have e0 : cq_n0 a co B = B := by unfold cq_n0; rw [if_pos ea]
    rw [e0] at fin
    exact br_t (by rw [ea]; rfl) (x_take hl hB fin)
  · have e0 : cq_n0 a co B = cq_gp a co B 16 := by unfold cq_n0; rw [if_neg ea]
    rw [e0] at fin
    exact br_f (nI_ne0 (by omega) (by omega)) (x_gp hl hB hb ha hco fin)
