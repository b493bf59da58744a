/-! the relation: all but the rows is the same on both sides; the rows are two lists -/
def cq_cf (c : Nat) (wk ws fo hd : Nat → Int32) : Prop :=
  ∀ s, s < 2 → (wk s = 1 ∨ wk s = 2) ∧ (∃ z, 1 ≤ z ∧ z < 2 ^ 31 ∧ ws s = nI z ∧ (wk s = 2 → z ≤ c)) ∧ (∃ o, o < 5 ∧ fo s = nI o) ∧ (∃ h, h ≤ c ∧ hd s = nI h)
def cq_ls (ra oa rs ct : Nat → Int32) (R O : List Nat) : Prop :=
  cq_S (cq_X ra) 0 R ∧ cq_S (cq_X oa) 0 O ∧ cq_ar rs ct 2 R ∧ cq_ar rs ct 3 O ∧ R.Pairwise (· ≤ ·) ∧ (∀ x, x ∈ R → x < 268435456) ∧ (∀ x, x ∈ O → x < 268435456)
def i_Rel (k : Nat) (u : SX) (v : SY) : Prop :=
  ∃ (c m a co o : Nat) (R O : List Nat) (ph nw jn bc nc : Int32) (wk ws fo ff fc hd ts ks vs ba na ra oa rs ct : Nat → Int32),
    u = (nI c, ph, nw, jn, nI m, nI a, nI co, nI o, bc, nc, nI R.length, nI O.length, wk, ws, fo, ff, fc, hd, ts, ks, vs, ba, na, ra, oa) ∧
    v = (nI c, ph, nw, jn, nI m, nI a, nI co, nI o, wk, ws, fo, ff, fc, hd, ts, ks, vs, rs, ct) ∧
    2 ≤ c ∧ c ≤ 12 ∧ 1 ≤ m ∧ m ≤ 7 ∧ a < 3 ∧ co < 3 ∧ 1 ≤ o ∧ o ≤ 3 ∧ cq_cf c wk ws fo hd ∧ cq_ok 16 ks ∧ cq_ok 256 vs ∧ cq_ls ra oa rs ct R O
theorem cq_R {k c m a co o : Nat} {R O : List Nat} {cp ph nw jn pj ag ac op bc nc rc oc : Int32} {wk ws fo ff fc hd ts ks vs ba na ra oa : Nat → Int32} {rs ct : Nat → Int32} (e1 : cp = nI c) (e2 : pj = nI m) (e3 : ag = nI a) (e4 : ac = nI co) (e5 : op = nI o) (e6 : rc = nI R.length) (e7 : oc = nI O.length)
    (h1 : 2 ≤ c) (h2 : c ≤ 12) (h3 : 1 ≤ m) (h4 : m ≤ 7) (h5 : a < 3) (h6 : co < 3) (h7 : 1 ≤ o) (h8 : o ≤ 3) (h9 : cq_cf c wk ws fo hd) (h10 : cq_ok 16 ks) (h11 : cq_ok 256 vs) (h12 : cq_ls ra oa rs ct R O) : i_Rel k (cp, ph, nw, jn, pj, ag, ac, op, bc, nc, rc, oc, wk, ws, fo, ff, fc, hd, ts, ks, vs, ba, na, ra, oa) (cp, ph, nw, jn, pj, ag, ac, op, wk, ws, fo, ff, fc, hd, ts, ks, vs, rs, ct) := by
  subst e1 e2 e3 e4 e5 e6 e7
  exact ⟨c, m, a, co, o, R, O, ph, nw, jn, bc, nc, wk, ws, fo, ff, fc, hd, ts, ks, vs, ba, na, ra, oa, rs, ct, rfl, rfl, h1, h2, h3, h4, h5, h6, h7, h8, h9, h10, h11, h12⟩
