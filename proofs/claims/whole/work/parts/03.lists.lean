/-! sorting: one sorted arrangement; swaps of a function's values -/
def cq_so (L : List Nat) : List Nat := L.mergeSort (fun a b => decide (a ≤ b))
theorem cq_sop (L : List Nat) : List.Perm (cq_so L) L := List.mergeSort_perm L _
theorem cq_sos (L : List Nat) : (cq_so L).Pairwise (· ≤ ·) := by
  have h := List.pairwise_mergeSort (le := fun a b : Nat => decide (a ≤ b)) (fun a b c h1 h2 => decide_eq_true (Nat.le_trans (of_decide_eq_true h1) (of_decide_eq_true h2))) (fun a b => by rcases Nat.le_total a b with h | h <;> simp [h]) L
  exact h.imp (fun h => of_decide_eq_true h)
theorem cq_sou {S L : List Nat} (hs : S.Pairwise (· ≤ ·)) (hp : List.Perm S L) : S = cq_so L :=
  List.Perm.eq_of_pairwise (le := (· ≤ ·)) (fun _ _ _ _ h1 h2 => Nat.le_antisymm h1 h2) hs (cq_sos L) (hp.trans (cq_sop L).symm)
theorem cq_sol (L : List Nat) : (cq_so L).length = L.length := (cq_sop L).length_eq
theorem cq_som {L : List Nat} {x : Nat} : x ∈ cq_so L ↔ x ∈ L := (cq_sop L).mem_iff
def cq_L (n : Nat) (f : Nat → Nat) : List Nat := (List.range n).map f
theorem cq_Ll (n : Nat) (f : Nat → Nat) : (cq_L n f).length = n := by unfold cq_L; simp
theorem cq_Lg {n : Nat} {f : Nat → Nat} {i : Nat} (h : i < n) : (cq_L n f).getD i 0 = f i := by
  rw [cq_gd (by rw [cq_Ll]; exact h)]
  unfold cq_L
  simp
theorem cq_LE (L : List Nat) : cq_L L.length (fun q => L.getD q 0) = L := by
  apply List.ext_getElem (cq_Ll _ _)
  intro i h1 h2
  rw [← cq_gd h1, ← cq_gd h2, cq_Lg h2]
theorem cq_Ls {n : Nat} {f : Nat → Nat} (h : ∀ p q, p < q → q < n → f p ≤ f q) : (cq_L n f).Pairwise (· ≤ ·) := by
  rw [List.pairwise_iff_getElem]
  intro i j hi hj hij
  rw [← cq_gd hi, ← cq_gd hj]
  rw [cq_Ll] at hi hj
  rw [cq_Lg hi, cq_Lg hj]
  exact h i j hij hj
def cq_sw (f : Nat → Nat) (i j : Nat) : Nat → Nat := fun q => if q = i then f j else if q = j then f i else f q
theorem cq_sw1 {f : Nat → Nat} {i j : Nat} : cq_sw f i j i = f j := if_pos rfl
theorem cq_sw2 {f : Nat → Nat} {i j : Nat} : cq_sw f i j j = f i := by
  unfold cq_sw
  by_cases h : j = i
  · rw [if_pos h, h]
  · rw [if_neg h, if_pos rfl]
theorem cq_sw3 {f : Nat → Nat} {i j q : Nat} (h1 : q ≠ i) (h2 : q ≠ j) : cq_sw f i j q = f q := by
  unfold cq_sw
  rw [if_neg h1, if_neg h2]
theorem cq_swp {n : Nat} {f : Nat → Nat} {i j : Nat} (hi : i < n) (hj : j < n) : List.Perm (cq_L n (cq_sw f i j)) (cq_L n f) := by
  have li : i < (cq_L n f).length := by rw [cq_Ll]; exact hi
  have lj : j < (cq_L n f).length := by rw [cq_Ll]; exact hj
  have h := List.set_set_perm li lj
  have e : cq_L n (cq_sw f i j) = ((cq_L n f).set i (cq_L n f)[j]).set j (cq_L n f)[i] := by
    apply List.ext_getElem
    · rw [List.length_set, List.length_set, cq_Ll, cq_Ll]
    · intro q h1 h2
      have gi : (cq_L n f)[i] = f i := by rw [← cq_gd li, cq_Lg hi]
      have gj : (cq_L n f)[j] = f j := by rw [← cq_gd lj, cq_Lg hj]
      rw [← cq_gd h1, List.getElem_set, List.getElem_set]
      rw [cq_Ll] at h1
      rw [cq_Lg h1]
      have h3 : q < (cq_L n f).length := by rw [cq_Ll]; exact h1
      have gq : (cq_L n f)[q] = f q := by rw [← cq_gd h3, cq_Lg h1]
      by_cases e1 : j = q
      · rw [if_pos e1, gi, ← e1]; exact cq_sw2
      · rw [if_neg e1]
        by_cases e2 : i = q
        · rw [if_pos e2, gj, ← e2]; exact cq_sw1
        · rw [if_neg e2, gq]
          exact cq_sw3 (fun z => e2 z.symm) (fun z => e1 z.symm)
  rw [e]
  exact h
/-! the difference of two sorted lists: by a merge, and by counts -/
def cq_md : List Nat → List Nat → List Nat
  | [], _ => []
  | a :: F, O => match O.dropWhile (fun o => decide (o < a)) with
    | [] => a :: cq_md F []
    | o :: O' => if o = a then cq_md F O' else a :: cq_md F (o :: O')
theorem cq_mdn (a : Nat) (F : List Nat) : cq_md (a :: F) [] = a :: cq_md F [] := by simp [cq_md]
theorem cq_mdl {a o : Nat} {F O : List Nat} (h : o < a) : cq_md (a :: F) (o :: O) = cq_md (a :: F) O := by
  simp [cq_md, List.dropWhile_cons, h]
theorem cq_mde {a : Nat} {F O : List Nat} : cq_md (a :: F) (a :: O) = cq_md F O := by
  simp [cq_md, List.dropWhile_cons]
theorem cq_mdg {a o : Nat} {F O : List Nat} (h : a < o) : cq_md (a :: F) (o :: O) = a :: cq_md F (o :: O) := by
  have h1 : ¬ o < a := by omega
  have h2 : ¬ o = a := by omega
  simp [cq_md, List.dropWhile_cons, h1, h2]
theorem cq_md0 : ∀ F : List Nat, cq_md F [] = F
  | [] => rfl
  | a :: F => by rw [cq_mdn, cq_md0 F]
theorem cq_mds : ∀ F O : List Nat, List.Sublist (cq_md F O) F
  | [], _ => List.Sublist.slnil
  | a :: F, O => by
    rw [cq_md]
    split
    · exact List.Sublist.cons_cons a (cq_mds F [])
    · split
      · exact List.Sublist.cons a (cq_mds F _)
      · exact List.Sublist.cons_cons a (cq_mds F _)
def cq_su (O : List Nat) : List Nat → List Nat → List Nat
  | _, [] => []
  | pre, a :: F => (if O.count a ≤ pre.count a then [a] else []) ++ cq_su O (pre ++ [a]) F
theorem cq_cs (x a : Nat) (pre : List Nat) : (pre ++ [a]).count x = pre.count x + (if a = x then 1 else 0) := by
  rw [List.count_append, List.count_singleton]
  by_cases h : a = x
  · simp [h]
  · simp [h]
theorem cq_cc (x a : Nat) (L : List Nat) : (a :: L).count x = L.count x + (if a = x then 1 else 0) := by
  rw [List.count_cons]
  by_cases h : a = x
  · simp [h]
  · simp [h]
theorem cq_mdsu (O : List Nat) : ∀ F pre O1 : List Nat, F.Pairwise (· ≤ ·) → O1.Pairwise (· ≤ ·) → (∀ x, x ∈ F → O1.count x = O.count x - pre.count x) → cq_md F O1 = cq_su O pre F := by
  intro F
  induction F with
  | nil => intro pre O1 _ _ _; rfl
  | cons a F ih =>
    intro pre O1 hF
    obtain ⟨hF1, hF2⟩ := List.pairwise_cons.mp hF
    induction O1 with
    | nil =>
      intro _ hc
      have ha := hc a List.mem_cons_self
      rw [List.count_nil] at ha
      rw [cq_mdn, cq_su, if_pos (by omega)]
      refine congrArg (a :: ·) (ih (pre ++ [a]) [] hF2 List.Pairwise.nil (fun x hx => ?_))
      have h := hc x (List.mem_cons_of_mem a hx)
      rw [List.count_nil] at h ⊢
      rw [cq_cs]
      omega
    | cons o O1 ih2 =>
      intro hO hc
      obtain ⟨hO1, hO2⟩ := List.pairwise_cons.mp hO
      rcases Nat.lt_trichotomy o a with h | h | h
      · rw [cq_mdl h]
        refine ih2 hO2 (fun x hx => ?_)
        have h2 := hc x hx
        rw [cq_cc] at h2
        have h3 : a ≤ x := by
          rcases List.mem_cons.mp hx with e | hx
          · omega
          · exact hF1 x hx
        rw [if_neg (by omega)] at h2
        omega
      · subst h
        have ha := hc o List.mem_cons_self
        rw [cq_cc, if_pos rfl] at ha
        rw [cq_mde, cq_su, if_neg (by omega), List.nil_append]
        refine ih (pre ++ [o]) O1 hF2 hO2 (fun x hx => ?_)
        have h2 := hc x (List.mem_cons_of_mem o hx)
        rw [cq_cc] at h2
        rw [cq_cs]
        by_cases e : o = x
        · rw [if_pos e] at h2 ⊢
          omega
        · rw [if_neg e] at h2 ⊢
          omega
      · have ha := hc a List.mem_cons_self
        have h0 : (o :: O1).count a = 0 := by
          apply List.count_eq_zero_of_not_mem
          intro hm
          rcases List.mem_cons.mp hm with e | hm
          · omega
          · have := hO1 a hm
            omega
        rw [cq_mdg h, cq_su, if_pos (by omega)]
        refine congrArg (a :: ·) (ih (pre ++ [a]) (o :: O1) hF2 hO (fun x hx => ?_))
        have h2 := hc x (List.mem_cons_of_mem a hx)
        rw [cq_cs]
        by_cases e : a = x
        · rw [if_pos e, ← e]
          rw [← e] at h2
          omega
        · rw [if_neg e]
          omega
theorem cq_mdE {F O : List Nat} (hF : F.Pairwise (· ≤ ·)) (hO : O.Pairwise (· ≤ ·)) : cq_su O [] F = cq_md F O :=
  (cq_mdsu O F [] O hF hO (fun x _ => by rw [List.count_nil]; omega)).symm
/-! the rows before the relation is made: base rows, groups -/
def cq_pz (op c z : Int32) : Bool :=
  if op = 1 then decide (z = c) else if op = 2 then decide (¬ z = c) else if op = 3 then decide (z < c) else if op = 4 then decide (c < z) else true
def cq_ps (op fl c k v : Int32) : Bool := cq_pz op c (if fl = 0 then k else v)
def cq_in (K V : Nat → Nat) (q : Nat → Bool) (i : Nat) : Nat → List Nat
  | 0 => []
  | j + 1 => if K (12 + j) = K i ∧ q j = true then cq_in K V q i j ++ [cq_pk (K i) (V i) (V (12 + j))] else cq_in K V q i j
def cq_rw (jn : Bool) (K V : Nat → Nat) (p q : Nat → Bool) (h1 i : Nat) : List Nat :=
  if p i = true then (if jn = true then cq_in K V q i h1 else [cq_pk (K i) (V i) 0]) else []
def cq_bs (jn : Bool) (K V : Nat → Nat) (p q : Nat → Bool) (h1 : Nat) : Nat → List Nat
  | 0 => []
  | i + 1 => cq_bs jn K V p q h1 i ++ cq_rw jn K V p q h1 i
theorem cq_inl (K V : Nat → Nat) (q : Nat → Bool) (i : Nat) : ∀ j, (cq_in K V q i j).length ≤ j
  | 0 => Nat.le_refl _
  | j + 1 => by
    have := cq_inl K V q i j
    rw [cq_in]
    split
    · rw [List.length_append, List.length_singleton]; omega
    · omega
theorem cq_rwl (jn : Bool) (K V : Nat → Nat) (p q : Nat → Bool) {h1 : Nat} (h : h1 ≤ 12) (i : Nat) : (cq_rw jn K V p q h1 i).length ≤ 12 := by
  unfold cq_rw
  split
  · split
    · exact Nat.le_trans (cq_inl K V q i h1) h
    · rw [List.length_singleton]; omega
  · rw [List.length_nil]; omega
theorem cq_bsl (jn : Bool) (K V : Nat → Nat) (p q : Nat → Bool) {h1 : Nat} (h : h1 ≤ 12) : ∀ i, (cq_bs jn K V p q h1 i).length ≤ 12 * i
  | 0 => Nat.le_refl _
  | i + 1 => by
    have a := cq_bsl jn K V p q h i
    have b := cq_rwl jn K V p q h i
    rw [cq_bs, List.length_append]
    omega
def cq_B (x : Nat) : Prop := x < 268435456 ∧ cq_cl 1 x < 256
theorem cq_Bk {a b c : Nat} (ha : a < 16) (hb : b < 256) (hc : c < 256) : cq_B (cq_pk a b c) :=
  ⟨cq_kb ha (by omega) hc, by rw [cq_k1 (by omega) hc]; exact hb⟩
theorem cq_inB {K V : Nat → Nat} (hK : ∀ i, K i < 16) (hV : ∀ i, V i < 256) (q : Nat → Bool) (i : Nat) : ∀ j x, x ∈ cq_in K V q i j → cq_B x
  | 0, x, h => absurd h (List.not_mem_nil)
  | j + 1, x, h => by
    rw [cq_in] at h
    split at h
    · rcases List.mem_append.mp h with h | h
      · exact cq_inB hK hV q i j x h
      · rw [List.mem_singleton.mp h]
        exact cq_Bk (hK _) (hV _) (hV _)
    · exact cq_inB hK hV q i j x h
theorem cq_bsB {K V : Nat → Nat} (hK : ∀ i, K i < 16) (hV : ∀ i, V i < 256) (jn : Bool) (p q : Nat → Bool) (h1 : Nat) : ∀ i x, x ∈ cq_bs jn K V p q h1 i → cq_B x
  | 0, x, h => absurd h (List.not_mem_nil)
  | i + 1, x, h => by
    rw [cq_bs] at h
    rcases List.mem_append.mp h with h | h
    · exact cq_bsB hK hV jn p q h1 i x h
    · unfold cq_rw at h
      split at h
      · split at h
        · exact cq_inB hK hV q i h1 x h
        · rw [List.mem_singleton.mp h]
          exact cq_Bk (hK _) (hV _) (by decide)
      · exact absurd h (List.not_mem_nil)
def cq_gc (k : Nat) : List Nat → Nat
  | [] => 0
  | x :: L => (if cq_cl 0 x = k then 1 else 0) + cq_gc k L
def cq_gs (c k : Nat) : List Nat → Nat
  | [] => 0
  | x :: L => (if cq_cl 0 x = k then cq_cl c x else 0) + cq_gs c k L
theorem cq_gca (k : Nat) (x : Nat) : ∀ L : List Nat, cq_gc k (L ++ [x]) = cq_gc k L + (if cq_cl 0 x = k then 1 else 0)
  | [] => by simp [cq_gc]
  | y :: L => by rw [List.cons_append, cq_gc, cq_gc, cq_gca k x L]; omega
theorem cq_gsa (c k : Nat) (x : Nat) : ∀ L : List Nat, cq_gs c k (L ++ [x]) = cq_gs c k L + (if cq_cl 0 x = k then cq_cl c x else 0)
  | [] => by simp [cq_gs]
  | y :: L => by rw [List.cons_append, cq_gs, cq_gs, cq_gsa c k x L]; omega
theorem cq_gcl (k : Nat) : ∀ L : List Nat, cq_gc k L ≤ L.length
  | [] => Nat.le_refl _
  | x :: L => by
    have := cq_gcl k L
    rw [cq_gc, List.length_cons]
    split <;> omega
theorem cq_gsl (c k : Nat) : ∀ L : List Nat, (∀ x, x ∈ L → cq_cl c x < 256) → cq_gs c k L ≤ 255 * L.length
  | [], _ => Nat.le_refl _
  | x :: L, h => by
    have a := cq_gsl c k L (fun y hy => h y (List.mem_cons_of_mem x hy))
    have b := h x List.mem_cons_self
    rw [cq_gs, List.length_cons]
    split <;> omega
def cq_gr (ag co : Nat) (B : List Nat) (k : Nat) : Nat := cq_pk k (if ag = 1 then cq_gc k B else cq_gs co k B) 0
def cq_gp (ag co : Nat) (B : List Nat) : Nat → List Nat
  | 0 => []
  | k + 1 => if 0 < cq_gc k B then cq_gp ag co B k ++ [cq_gr ag co B k] else cq_gp ag co B k
theorem cq_gpl (ag co : Nat) (B : List Nat) : ∀ k, (cq_gp ag co B k).length ≤ k
  | 0 => Nat.le_refl _
  | k + 1 => by
    have := cq_gpl ag co B k
    rw [cq_gp]
    split
    · rw [List.length_append, List.length_singleton]; omega
    · omega
theorem cq_gb {ag co k : Nat} {B : List Nat} (hB : ∀ x, x ∈ B → cq_B x) (hl : B.length ≤ 144) (hc : co < 3) : (if ag = 1 then cq_gc k B else cq_gs co k B) < 65536 := by
  have h1 := cq_gcl k B
  have h2 := cq_gsl co k B (fun x hx => by
    match co, hc with
    | 0, _ => exact Nat.lt_trans (cq_b0 (hB x hx).1) (by decide)
    | 1, _ => exact (hB x hx).2
    | 2, _ => exact cq_b2 x)
  split <;> omega
theorem cq_gpb {ag co : Nat} {B : List Nat} (hB : ∀ x, x ∈ B → cq_B x) (hl : B.length ≤ 144) (hc : co < 3) : ∀ k, k ≤ 16 → ∀ x, x ∈ cq_gp ag co B k → x < 268435456
  | 0, _, x, h => absurd h (List.not_mem_nil)
  | k + 1, hk, x, h => by
    rw [cq_gp] at h
    split at h
    · rcases List.mem_append.mp h with h | h
      · exact cq_gpb hB hl hc k (by omega) x h
      · rw [List.mem_singleton.mp h]
        exact cq_kb (by omega) (cq_gb hB hl hc) (by decide)
    · exact cq_gpb hB hl hc k (by omega) x h
def cq_n0 (ag co : Nat) (B : List Nat) : List Nat := if ag = 0 then B else cq_gp ag co B 16
theorem cq_n0l {ag co : Nat} {B : List Nat} (hl : B.length ≤ 144) : (cq_n0 ag co B).length ≤ 144 := by
  unfold cq_n0
  split
  · exact hl
  · have := cq_gpl ag co B 16
    omega
theorem cq_n0b {ag co : Nat} {B : List Nat} (hB : ∀ x, x ∈ B → cq_B x) (hl : B.length ≤ 144) (hc : co < 3) : ∀ x, x ∈ cq_n0 ag co B → x < 268435456 := by
  unfold cq_n0
  intro x hx
  split at hx
  · exact (hB x hx).1
  · exact cq_gpb hB hl hc 16 (Nat.le_refl _) x hx
def cq_nx (ag co m : Nat) (B : List Nat) : List Nat := cq_so ((cq_n0 ag co B).map (cq_pr m))
theorem cq_nxl {ag co m : Nat} {B : List Nat} (hl : B.length ≤ 144) : (cq_nx ag co m B).length ≤ 144 := by
  unfold cq_nx
  rw [cq_sol, List.length_map]
  exact cq_n0l hl
theorem cq_nxb {ag co m : Nat} {B : List Nat} (hB : ∀ x, x ∈ B → cq_B x) (hl : B.length ≤ 144) (hc : co < 3) : ∀ x, x ∈ cq_nx ag co m B → x < 268435456 := by
  unfold cq_nx
  intro x hx
  obtain ⟨y, hy, e⟩ := List.mem_map.mp (cq_som.mp hx)
  rw [← e]
  exact cq_prb (cq_n0b hB hl hc y hy)
def cq_ou (o : Nat) (S R : List Nat) : List Nat := if o = 1 then cq_md S R else if o = 2 then cq_md R S else S
theorem cq_ouS (o : Nat) (S R : List Nat) : List.Sublist (cq_ou o S R) S ∨ List.Sublist (cq_ou o S R) R := by
  unfold cq_ou
  split
  · exact Or.inl (cq_mds S R)
  · split
    · exact Or.inr (cq_mds R S)
    · exact Or.inl (List.Sublist.refl S)
