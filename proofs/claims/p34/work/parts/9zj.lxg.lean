/-! THE TEXT READ BACK INTO TOKENS -/
def itOK (x : Itm) : Prop := (x.1 = 0 ∧ x.2 < 128 ∧ isD x.2 = false ∧ isL x.2 = false ∧ isS x.2 = false) ∨ (x.1 = 1 ∧ x.2 < 10000) ∨ (x.1 = 2 ∧ x.2 < 7) ∨ x.1 = 3
/-- items that may stand behind one of kind k -/
def goodF : Nat → List Itm → Prop
  | _, [] => True
  | k, x :: l => itOK x ∧ ¬ (k = x.1 ∧ (k = 1 ∨ k = 2)) ∧ goodF x.1 l
def lastK : Nat → List Itm → Nat
  | k, [] => k
  | _, x :: l => lastK x.1 l
theorem goodF_app : ∀ {k : Nat} {a b : List Itm}, goodF k a → goodF (lastK k a) b → goodF k (a ++ b)
  | _, [], _, _, h => h
  | _, _ :: _, _, ⟨h1, h2, h3⟩, h => ⟨h1, h2, goodF_app h3 h⟩
theorem lastK_app : ∀ {k : Nat} {a b : List Itm}, lastK k (a ++ b) = lastK (lastK k a) b
  | _, [], _ => rfl
  | _, x :: a, b => lastK_app (k := x.1) (a := a) (b := b)
theorem goodF_k {k k' : Nat} {l : List Itm} (hk : ¬ (k = 1 ∨ k = 2)) (h : goodF k' l) : goodF k l := by
  cases l with
  | nil => trivial
  | cons x l => exact ⟨h.1, fun z => hk z.2, h.2.2⟩
def toks (l : List Itm) : List Itm := l.filter fun x => decide (x.1 ≠ 3)
theorem toks_app (a b : List Itm) : toks (a ++ b) = toks a ++ toks b := List.filter_append ..
theorem toks_sp {x : Itm} {l : List Itm} (h : x.1 = 3) : toks (x :: l) = toks l := by
  unfold toks
  rw [List.filter_cons_of_neg (by simp [h])]
theorem toks_tk {x : Itm} {l : List Itm} (h : ¬ x.1 = 3) : toks (x :: l) = x :: toks l := by
  unfold toks
  rw [List.filter_cons_of_pos (by simp [h])]
section LXG
variable {b : Nat → Nat} {n : Nat}
def tkA (b : Nat → Nat) (n q : Nat) (x : Itm) : Prop := (x.1 = 0 ∧ kd b n q = x.2 ∧ x.2 < 128) ∨ (x.1 = 1 ∧ kd b n q = 256 ∧ vlc b n q = x.2) ∨ (x.1 = 2 ∧ WM b n x.2 q)
/-- from p on these tokens stand, and then the end -/
def LX (b : Nat → Nat) (n : Nat) : Nat → List Itm → Prop
  | p, [] => sk b n p = n
  | p, x :: l => tkA b n (sk b n p) x ∧ LX b n (te b n (sk b n p)) l
theorem LX_sk {p p' : Nat} {l : List Itm} (h : LX b n p l) (e : sk b n p' = sk b n p) : LX b n p' l := by
  cases l with
  | nil => exact e.trans h
  | cons x l =>
    show tkA b n (sk b n p') x ∧ LX b n (te b n (sk b n p')) l
    rw [e]
    exact h
theorem isS_iff {c : Nat} : isS c = true ↔ c = 32 := by
  unfold isS
  rw [decide_eq_true_iff]
theorem dg_dig {v : Nat} (h : v < 10000) : ∀ c ∈ dg v, isD c = true := by
  have key : ∀ c, 48 ≤ c → c ≤ 57 → isD c = true := fun c h1 h2 => isD_iff.mpr ⟨h1, h2⟩
  by_cases q1 : v < 10
  · rw [dg_1 q1]
    intro c hc
    simp at hc
    exact key c (by omega) (by omega)
  · by_cases q2 : v < 100
    · rw [dg_2 (by omega) q2]
      intro c hc
      simp at hc
      rcases hc with hc | hc <;> exact key c (by omega) (by omega)
    · by_cases q3 : v < 1000
      · rw [dg_3 (by omega) q3]
        intro c hc
        simp at hc
        rcases hc with hc | hc | hc <;> exact key c (by omega) (by omega)
      · rw [dg_4 (by omega) h]
        intro c hc
        simp at hc
        rcases hc with hc | hc | hc | hc <;> exact key c (by omega) (by omega)
theorem nm_dg {p v : Nat} (hv : v < 10000) (hb : ∀ j, j < (dg v).length → b (p + j) = (dg v).getD j 0) (hn : p + (dg v).length ≤ n) (he : p + (dg v).length < n → isD (b (p + (dg v).length)) = false) : nm b n p 0 = v := by
  have fin : ∀ {q a : Nat}, q = p + (dg v).length → nm b n q a = a := fun {q a} hq => by
    subst hq
    rcases Nat.lt_or_ge (p + (dg v).length) n with z | z
    · exact nm_st (he z)
    · exact nm_end z
  have go : ∀ {q a c : Nat}, q < n → b q = 48 + c → c < 10 → nm b n q a = nm b n (q + 1) (10 * a + c) := fun {q a c} h1 h2 h3 => by
    rw [nm_go h1 (by rw [h2]; exact isD_iff.mpr ⟨by omega, by omega⟩), h2, show 48 + c - 48 = c by omega]
  by_cases q1 : v < 10
  · rw [dg_1 q1] at hb hn fin
    have e0 : b p = 48 + v := hb 0 (by show 0 < 1; omega)
    have l1 : [48 + v].length = 1 := rfl
    rw [go (by omega) e0 q1, fin (by rw [l1])]
    omega
  · by_cases q2 : v < 100
    · rw [dg_2 (by omega) q2] at hb hn fin
      have l1 : [48 + v / 10, 48 + v % 10].length = 2 := rfl
      have e0 : b p = 48 + v / 10 := hb 0 (by show 0 < 2; omega)
      have e1 : b (p + 1) = 48 + v % 10 := hb 1 (by show 1 < 2; omega)
      rw [go (by omega) e0 (by omega), go (by omega) e1 (by omega), fin (by rw [l1])]
      omega
    · by_cases q3 : v < 1000
      · rw [dg_3 (by omega) q3] at hb hn fin
        have l1 : [48 + v / 100, 48 + v / 10 % 10, 48 + v % 10].length = 3 := rfl
        have e0 : b p = 48 + v / 100 := hb 0 (by show 0 < 3; omega)
        have e1 : b (p + 1) = 48 + v / 10 % 10 := hb 1 (by show 1 < 3; omega)
        have e2 : b (p + 1 + 1) = 48 + v % 10 := hb 2 (by show 2 < 3; omega)
        rw [go (by omega) e0 (by omega), go (by omega) e1 (by omega), go (by omega) e2 (by omega), fin (by rw [l1])]
        omega
      · rw [dg_4 (by omega) hv] at hb hn fin
        have l1 : [48 + v / 1000, 48 + v / 100 % 10, 48 + v / 10 % 10, 48 + v % 10].length = 4 := rfl
        have e0 : b p = 48 + v / 1000 := hb 0 (by show 0 < 4; omega)
        have e1 : b (p + 1) = 48 + v / 100 % 10 := hb 1 (by show 1 < 4; omega)
        have e2 : b (p + 1 + 1) = 48 + v / 10 % 10 := hb 2 (by show 2 < 4; omega)
        have e3 : b (p + 1 + 1 + 1) = 48 + v % 10 := hb 3 (by show 3 < 4; omega)
        rw [go (by omega) e0 (by omega), go (by omega) e1 (by omega), go (by omega) e2 (by omega), go (by omega) e3 (by omega), fin (by rw [l1])]
        omega
theorem wbs_get {i k : Nat} (h : k < slenF i) : (wbs i).getD k 0 = wc i k := by
  unfold wbs
  rw [List.getD_eq_getElem?_getD, List.getElem?_map, List.getElem?_range h]
  rfl
theorem D_not_L {c : Nat} (h : isD c = true) : isL c = false ∧ isS c = false := by
  have h := isD_iff.mp h
  constructor
  · rw [← Bool.not_eq_true, isL_iff]
    omega
  · rw [← Bool.not_eq_true, isS_iff]
    omega
theorem L_not_D {c : Nat} (h : isL c = true) : isD c = false ∧ isS c = false := by
  have h := isL_iff.mp h
  constructor
  · rw [← Bool.not_eq_true, isD_iff]
    omega
  · rw [← Bool.not_eq_true, isS_iff]
    omega
/-- an item's first byte -/
theorem fst_b {x : Itm} (h : itOK x) : 0 < (itB x).length ∧ (x.1 ≠ 1 → isD ((itB x).getD 0 0) = false) ∧ (x.1 ≠ 2 → isL ((itB x).getD 0 0) = false) ∧ ∀ c ∈ itB x, c < 128 := by
  obtain ⟨k, v⟩ := x
  rcases h with ⟨h1, h2, h3, h4, h5⟩ | ⟨h1, h2⟩ | ⟨h1, h2⟩ | h1
  · have h1 : k = 0 := h1
    subst h1
    exact ⟨Nat.one_pos, fun _ => h3, fun _ => h4, fun c hc => by rw [itB_0] at hc; simp at hc; rw [hc]; exact h2⟩
  · have h1 : k = 1 := h1
    subst h1
    have h2 : v < 10000 := h2
    rw [itB_1]
    have hl := dg_len h2
    have hd : isD ((dg v).getD 0 0) = true := by
      refine dg_dig h2 _ ?_
      rw [List.getD_eq_getElem?_getD, List.getElem?_eq_getElem (show 0 < (dg v).length by omega)]
      exact List.getElem_mem _
    exact ⟨by omega, fun z => absurd rfl z, fun _ => (D_not_L hd).1, fun c hc => by have := isD_iff.mp (dg_dig h2 c hc); omega⟩
  · have h1 : k = 2 := h1
    subst h1
    have h2 : v < 7 := h2
    rw [itB_2]
    have hl := wbs_len h2
    have hw := wl_ok v h2
    have hc0 := wc_ok v h2 0 hw.1
    have e0 : (wbs v).getD 0 0 = wc v 0 := wbs_get hw.1
    refine ⟨by omega, fun _ => by rw [e0]; exact hc0.2.2.1, fun z => absurd rfl z, fun c hc => ?_⟩
    unfold wbs at hc
    rw [List.mem_map] at hc
    obtain ⟨k, hk, rfl⟩ := hc
    have := isL_iff.mp (wc_ok v h2 k (List.mem_range.mp hk)).2.1
    omega
  · have h1 : k = 3 := h1
    subst h1
    rw [itB_3]
    exact ⟨Nat.one_pos, fun _ => rfl, fun _ => rfl, fun c hc => by simp at hc; omega⟩
theorem lx_ok (hb2 : ∀ j, b j < 256) : ∀ (l : List Itm) (k p : Nat), goodF k l → (∀ j, j < (rend l).length → b (p + j) = (rend l).getD j 0) → p + (rend l).length = n → LX b n p (toks l)
  | [], _, p, _, _, he => by
    have he : p + 0 = n := he
    show sk b n p = n
    unfold sk
    rw [rn_end (by omega)]
    omega
  | x :: l, k, p, ⟨h1, h2, h3⟩, hb, he => by
    obtain ⟨f1, f2, f3, -⟩ := fst_b h1
    rw [rend_cons] at hb he
    rw [List.length_append] at he
    have hbx : ∀ j, j < (itB x).length → b (p + j) = (itB x).getD j 0 := fun j hj => by
      rw [hb j (by rw [List.length_append]; omega), List.getD_eq_getElem?_getD, List.getD_eq_getElem?_getD, List.getElem?_append_left hj]
    have hbl : ∀ j, j < (rend l).length → b (p + (itB x).length + j) = (rend l).getD j 0 := fun j hj => by
      rw [Nat.add_assoc, hb _ (by rw [List.length_append]; omega), List.getD_eq_getElem?_getD, List.getD_eq_getElem?_getD, List.getElem?_append_right (by omega), show (itB x).length + j - (itB x).length = j by omega]
    have IH := lx_ok hb2 l x.1 (p + (itB x).length) h3 hbl (by omega)
    have hb0 := hbx 0 f1
    rw [Nat.add_zero] at hb0
    have hpn : p < n := by omega
    -- the byte behind
    have nxt : p + (itB x).length < n → ∃ y l', l = y :: l' ∧ b (p + (itB x).length) = (itB y).getD 0 0 ∧ itOK y ∧ ¬ (x.1 = y.1 ∧ (x.1 = 1 ∨ x.1 = 2)) := fun hlt => by
      cases l with
      | nil =>
        have : (rend ([] : List Itm)).length = 0 := rfl
        omega
      | cons y l' =>
        obtain ⟨g1, -⟩ := fst_b h3.1
        refine ⟨y, l', rfl, ?_, h3.1, h3.2.1⟩
        have := hbl 0 (by rw [rend_cons, List.length_append]; omega)
        rw [Nat.add_zero, rend_cons, List.getD_eq_getElem?_getD, List.getElem?_append_left g1, ← List.getD_eq_getElem?_getD] at this
        exact this
    obtain ⟨kk, v⟩ := x
    rcases h1 with ⟨q1, q2, q3, q4, q5⟩ | ⟨q1, q2⟩ | ⟨q1, q2⟩ | q1
    · have q1 : kk = 0 := q1
      subst q1
      have e0 : b p = v := hb0
      have es : sk b n p = p := rn_st (by rw [e0]; exact q5)
      rw [toks_tk (show ¬ (0 : Nat) = 3 by decide)]
      refine ⟨Or.inl ⟨rfl, ?_, q2⟩, ?_⟩
      · rw [es]
        exact (kd_c (by have : v < 128 := q2; show v < 256; omega) q3 q4).mpr ⟨hpn, e0⟩
      · rw [es]
        have et : te b n p = p + 1 := by
          unfold te
          rw [if_pos hpn, e0, if_neg (by rw [show isD v = false from q3]; decide), if_neg (by rw [show isL v = false from q4]; decide)]
        rw [et]
        exact IH
    · have q1 : kk = 1 := q1
      subst q1
      rw [itB_1] at hbx IH nxt he hb0 f1
      have q2 : v < 10000 := q2
      have hd : isD (b p) = true := by
        rw [hb0]
        refine dg_dig q2 _ ?_
        rw [List.getD_eq_getElem?_getD, List.getElem?_eq_getElem f1]
        exact List.getElem_mem _
      have es : sk b n p = p := rn_st (D_not_L hd).2
      have hend : p + (dg v).length < n → isD (b (p + (dg v).length)) = false := fun hlt => by
        obtain ⟨y, l', rfl, y1, y2, y3⟩ := nxt hlt
        rw [y1]
        refine (fst_b y2).2.1 (fun z => y3 ⟨z.symm, Or.inl rfl⟩)
      have er : rn b n isD p = p + (dg v).length := rn_uniq (by omega) (by omega) (fun j j1 j2 => by
        have := hbx (j - p) (by omega)
        rw [show p + (j - p) = j by omega] at this
        rw [this]
        refine dg_dig q2 _ ?_
        rw [List.getD_eq_getElem?_getD, List.getElem?_eq_getElem (show j - p < (dg v).length by omega)]
        exact List.getElem_mem _) hend
      rw [toks_tk (show ¬ (1 : Nat) = 3 by decide)]
      refine ⟨Or.inr (Or.inl ⟨rfl, ?_, ?_⟩), ?_⟩
      · rw [es]
        exact (kd_n hb2).mpr ⟨hpn, hd⟩
      · rw [es]
        unfold vlc
        rw [if_pos ⟨hpn, hd⟩, nm_dg q2 hbx (by omega) hend]
        show min 100000 v = v
        omega
      · rw [es]
        have et : te b n p = p + (dg v).length := by
          unfold te
          rw [if_pos hpn, if_pos hd, er]
        rw [et]
        exact IH
    · have q1 : kk = 2 := q1
      subst q1
      have q2 : v < 7 := q2
      rw [itB_2] at hbx IH nxt he hb0 f1
      have hl := (wbs_len q2).1
      rw [hl] at hbx IH nxt he f1
      have hw : WM b n v p := ⟨by omega, fun k hk => by rw [hbx k hk, wbs_get hk], fun hlt => by
        obtain ⟨y, l', rfl, y1, y2, y3⟩ := nxt hlt
        rw [y1]
        exact (fst_b y2).2.2.1 (fun z => y3 ⟨z.symm, Or.inr rfl⟩)⟩
      have hLt : isL (b p) = true := by
        rw [hb0, wbs_get f1]
        exact (wc_ok v q2 0 f1).2.1
      have es : sk b n p = p := rn_st (L_not_D hLt).2
      rw [toks_tk (show ¬ (2 : Nat) = 3 by decide)]
      refine ⟨Or.inr (Or.inr ⟨rfl, by rw [es]; exact hw⟩), ?_⟩
      rw [es, (WM_tok q2 hw).2.2]
      exact IH
    · have q1 : kk = 3 := q1
      subst q1
      rw [itB_3] at IH hb0
      have e0 : b p = 32 := hb0
      rw [toks_sp rfl]
      refine LX_sk IH ?_
      exact rn_go hpn (by rw [e0]; rfl)
end LXG
