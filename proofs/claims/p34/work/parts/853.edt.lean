/-! ARCS PUT IN AND TAKEN OUT -/
def insA (a : Nat → Nat) (k x : Nat) : Nat → Nat := fun i => if i < k then a i else if i = k then x else a (i - 1)
def delA (a : Nat → Nat) (k : Nat) : Nat → Nat := fun i => if i < k then a i else a (i + 1)
def setT (P : PT) (t n : Nat) (a : Nat → Nat) : PT := (pT P, fun u => pH P u, fun u => if u = t then n else pL P u, fun u => if u = t then a else pA P u)
theorem setT_T (P : PT) (t n : Nat) (a : Nat → Nat) : pT (setT P t n a) = pT P := rfl
theorem setT_H (P : PT) (t n : Nat) (a : Nat → Nat) (u : Nat) : pH (setT P t n a) u = pH P u := rfl
theorem setT_L (P : PT) (t n : Nat) (a : Nat → Nat) (u : Nat) : pL (setT P t n a) u = if u = t then n else pL P u := rfl
theorem setT_A (P : PT) (t n : Nat) (a : Nat → Nat) (u k : Nat) : pA (setT P t n a) u k = if u = t then a k else pA P u k := by
  show (if u = t then a else pA P u) k = _
  split <;> rfl
theorem setT_L1 (P : PT) (t n : Nat) (a : Nat → Nat) : pL (setT P t n a) t = n := if_pos rfl
theorem setT_A1 (P : PT) (t n : Nat) (a : Nat → Nat) : pA (setT P t n a) t = a := by
  funext k
  rw [setT_A, if_pos rfl]
theorem setT_L2 (P : PT) {t n u : Nat} {a : Nat → Nat} (h : u ≠ t) : pL (setT P t n a) u = pL P u := if_neg h
theorem setT_A2 (P : PT) {t n u : Nat} {a : Nat → Nat} (h : u ≠ t) : pA (setT P t n a) u = pA P u := by
  funext k
  rw [setT_A, if_neg h]
theorem WQ.set {N : NT} {P : PT} {t n : Nat} {a : Nat → Nat} (h : WQ N P) (hn : n ≤ 14) (ha : arcsOK N n a) : WQ N (setT P t n a) := by
  refine ⟨h.1, fun u hu => ⟨(h.2 u hu).1, ?_, fun k hk => ?_⟩⟩
  · rw [setT_L]
    split
    · exact hn
    · exact (h.2 u hu).2.1
  · rw [setT_L] at hk
    rw [setT_A]
    split
    · rename_i q
      rw [if_pos q] at hk
      exact ha k hk
    · rename_i q
      rw [if_neg q] at hk
      exact (h.2 u hu).2.2 k hk
theorem ins_ok {N : NT} {n k x : Nat} {a : Nat → Nat} (ha : arcsOK N n a) (hx : x < 2 * wE N) (hk : k ≤ n) : arcsOK N (n + 1) (insA a k x) := by
  intro j hj
  unfold insA
  split
  · exact ha j (by omega)
  · split
    · exact hx
    · exact ha _ (by omega)
theorem del_ok {N : NT} {n k : Nat} {a : Nat → Nat} (ha : arcsOK N (n + 1) a) : arcsOK N n (delA a k) := by
  intro j hj
  unfold delA
  split
  · exact ha j (by omega)
  · exact ha _ (by omega)
theorem ins_del {a : Nat → Nat} {k : Nat} : insA (delA a k) k (a k) = a := by
  funext i
  unfold insA delA
  by_cases h1 : i < k
  · rw [if_pos h1, if_pos h1]
  · rw [if_neg h1]
    by_cases h2 : i = k
    · rw [if_pos h2, h2]
    · rw [if_neg h2, if_neg (by omega), show i - 1 + 1 = i by omega]
theorem del_ins {a : Nat → Nat} {k x : Nat} : delA (insA a k x) k = a := by
  funext i
  unfold insA delA
  dsimp only
  by_cases h1 : i < k
  · rw [if_pos h1, if_pos h1]
  · rw [if_neg h1, if_neg (by omega), if_neg (by omega), show i + 1 - 1 = i by omega]
theorem setT_same {P : PT} {t : Nat} : ∀ u, pL (setT P t (pL P t) (pA P t)) u = pL P u ∧ pA (setT P t (pL P t) (pA P t)) u = pA P u := by
  intro u
  by_cases q : u = t
  · subst q
    exact ⟨setT_L1 _ _ _ _, setT_A1 _ _ _ _⟩
  · exact ⟨setT_L2 P q, setT_A2 P q⟩
theorem setT_id (P : PT) (t : Nat) : setT P t (pL P t) (pA P t) = P := by
  obtain ⟨T, H, L, A⟩ := P
  show (T, _, _, _) = (T, H, L, A)
  congr 1
  congr 1
  congr 1
  · funext u
    show (if u = t then L t else L u) = L u
    split
    · rename_i q; rw [q]
    · rfl
  · funext u
    show (if u = t then _ else _) = A u
    split
    · rename_i q; rw [q]; rfl
    · rfl
theorem setT_setT (P : PT) (t n m : Nat) (a b : Nat → Nat) : setT (setT P t n a) t m b = setT P t m b := by
  show (pT P, _, _, _) = (pT P, _, _, _)
  congr 1
  congr 1
  congr 1
  · funext u
    show (if u = t then m else (if u = t then n else pL P u)) = if u = t then m else pL P u
    split <;> rfl
  · funext u
    show (if u = t then b else pA (setT P t n a) u) = if u = t then b else pA P u
    split
    · rfl
    · rename_i q
      exact setT_A2 P q
section EDT
variable {h : PH} {N : NT} {P : PT}
def S2829 (a : Nat) : Prop := a = 28 ∨ a = 29
theorem c_put {t k x : Nat} (hw : WQ N P) (hc : CP h 26 P) (ht : t < pT P) (hk : k ≤ pL P t) (h13 : pL P t ≤ 13) : ∃ h', F_X3_putIn h (nI t) (nI k) (nI x) = some h' ∧ Fr S2829 h h' ∧ CP h' 26 (setT P t (pL P t + 1) (insA (pA P t) k x)) := by
  have h4 := hw.1
  unfold F_X3_putIn
  rw [c_size hc ht h4, i14, if_pos (nI_lt (by omega) (by omega))]
  refine loop_ind0 (σ := Int32 × PH) (fun j s => j ≤ pL P t - k ∧ s.1 = nI (pL P t - j) ∧ Fr S2829 h s.2 ∧ s.2.1 28 = h.1 28 ∧ ∀ i, s.2.1 29 i = if t * 14 + (pL P t - j) < i ∧ i ≤ t * 14 + pL P t then h.1 29 (i - 1) else h.1 29 i) _ (pL P t - k) ⟨Nat.zero_le _, rfl, Fr.refl h, rfl, fun i => (if_neg (by omega)).symm⟩ ?_
  rintro j ⟨p1, p2⟩ ⟨hj, e1, fr, e28, inv⟩
  dsimp only at e1 fr e28 inv ⊢
  subst e1
  rcases Nat.lt_or_ge k (pL P t - j) with q | q
  · right
    refine ⟨by omega, ?_⟩
    rw [if_neg (nI_ge q (by omega)), nI_mul, nI_add, show nI (t * 14 + (pL P t - j)) - (1 : Int32) = nI (t * 14 + (pL P t - j) - 1) from nI_sub (b := 1) (by omega), at_in (by omega) (by omega), put_in (by omega) (by omega)]
    refine ⟨_, rfl, by omega, ?_, fr.trans (Fr.pu (Or.inr rfl)), ?_, fun i => ?_⟩
    · show nI (pL P t - j) + (-1 : Int32) = _
      rw [show pL P t - j = (pL P t - (j + 1)) + 1 by omega, nI_m1]
    · dsimp only
      rw [(pu_o p2 29 _ _ 28 (by omega)).1]
      exact e28
    · dsimp only
      rw [pu_get, inv, inv]
      by_cases z : i = t * 14 + (pL P t - j)
      · rw [if_pos ⟨rfl, z⟩, if_neg (by omega), if_pos (by omega), z]
      · rw [if_neg (fun y => z y.2)]
        by_cases z2 : t * 14 + (pL P t - j) < i ∧ i ≤ t * 14 + pL P t
        · rw [if_pos z2, if_pos (by omega)]
        · rw [if_neg z2, if_neg (by omega)]
  · left
    have hjk : pL P t - j = k := by omega
    rw [if_pos (nI_le q (by omega)), nI_mul, nI_add, put_in (by omega) (by omega), nI_1, put_in (by omega) (by omega)]
    refine ⟨_, rfl, (fr.trans (Fr.pu (Or.inr rfl))).trans (Fr.pu (Or.inl rfl)), ?_⟩
    refine ⟨?_, fun u hu => ⟨?_, ?_, fun i hi => ?_⟩⟩
    · rw [(pu_o _ 28 _ _ 26 (by omega)).1, (pu_o _ 29 _ _ 26 (by omega)).1, (fr 26 (by unfold S2829; omega)).1]
      exact hc.1
    · rw [(pu_o _ 28 _ _ (26 + 1) (by omega)).1, (pu_o _ 29 _ _ (26 + 1) (by omega)).1, (fr (26 + 1) (by unfold S2829; omega)).1]
      exact (hc.2 u hu).1
    · show (pu (pu p2 29 _ _) 28 _ _).1 28 u = _
      rw [pu_get, (pu_o p2 29 _ _ 28 (by omega)).1, e28, setT_L]
      by_cases z : u = t
      · rw [if_pos ⟨rfl, z⟩, if_pos z]
      · rw [if_neg (fun y => z y.2), if_neg z]
        exact (hc.2 u hu).2.1
    · show (pu (pu p2 29 _ _) 28 _ _).1 29 (u * 14 + i) = _
      have hu2 : u < pT P := hu
      rw [(pu_o _ 28 _ _ 29 (by omega)).1, pu_get, inv, hjk, setT_A]
      rw [setT_L] at hi
      by_cases z : u = t
      · subst z
        rw [if_pos rfl] at hi ⊢
        unfold insA
        by_cases y1 : i < k
        · rw [if_neg (by omega), if_neg (by omega), if_pos y1]
          exact (hc.2 u hu2).2.2 i (by omega)
        · by_cases y2 : i = k
          · rw [if_pos ⟨rfl, by omega⟩, if_neg y1, if_pos y2]
          · rw [if_neg (by omega), if_pos (by omega), if_neg y1, if_neg y2, show u * 14 + i - 1 = u * 14 + (i - 1) by omega]
            exact (hc.2 u hu2).2.2 (i - 1) (by omega)
      · rw [if_neg z] at hi ⊢
        have := (hw.2 u hu2).2.1
        rw [if_neg (by omega), if_neg (by omega)]
        exact (hc.2 u hu2).2.2 i hi
theorem c_take {t k : Nat} (hw : WQ N P) (hc : CP h 26 P) (ht : t < pT P) (hk : k < pL P t) : ∃ h', F_X3_takeOut h (nI t) (nI k) = some h' ∧ Fr S2829 h h' ∧ CP h' 26 (setT P t (pL P t - 1) (delA (pA P t) k)) := by
  have h4 := hw.1
  have h14 := (hw.2 t ht).2.1
  unfold F_X3_takeOut
  rw [c_size hc ht h4, if_pos (show (0 : Int32) < nI (pL P t) from nI_lt (a := 0) (by omega) (by omega)), show nI (pL P t) - (1 : Int32) = nI (pL P t - 1) from nI_sub (b := 1) (by omega)]
  refine loop_ind0 (σ := Int32 × PH) (fun j s => k + j ≤ pL P t - 1 ∧ s.1 = nI (k + j) ∧ Fr S2829 h s.2 ∧ s.2.1 28 = h.1 28 ∧ ∀ i, s.2.1 29 i = if t * 14 + k ≤ i ∧ i < t * 14 + (k + j) then h.1 29 (i + 1) else h.1 29 i) _ (pL P t - 1 - k) ⟨by omega, rfl, Fr.refl h, rfl, fun i => (if_neg (by omega)).symm⟩ ?_
  rintro j ⟨p1, p2⟩ ⟨hj, e1, fr, e28, inv⟩
  dsimp only at e1 fr e28 inv ⊢
  subst e1
  rcases Nat.lt_or_ge (k + j) (pL P t - 1) with q | q
  · right
    refine ⟨by omega, ?_⟩
    rw [if_neg (nI_ge q (by omega)), nI_14, nI_1 (t * 14 + (k + j)), at_in (by omega) (by omega), put_in (by omega) (by omega)]
    refine ⟨_, rfl, by omega, nI_1 _, fr.trans (Fr.pu (Or.inr rfl)), ?_, fun i => ?_⟩
    · dsimp only
      rw [(pu_o p2 29 _ _ 28 (by omega)).1]
      exact e28
    · dsimp only
      rw [pu_get, inv, inv]
      by_cases z : i = t * 14 + (k + j)
      · rw [if_pos ⟨rfl, z⟩, if_neg (by omega), if_pos (by omega), z]
      · rw [if_neg (fun y => z y.2)]
        by_cases z2 : t * 14 + k ≤ i ∧ i < t * 14 + (k + j)
        · rw [if_pos z2, if_pos (by omega)]
        · rw [if_neg z2, if_neg (by omega)]
  · left
    have hjk : k + j = pL P t - 1 := by omega
    rw [if_pos (nI_le q (by omega)), put_in (by omega) (by omega)]
    refine ⟨_, rfl, fr.trans (Fr.pu (Or.inl rfl)), ?_⟩
    refine ⟨?_, fun u hu => ⟨?_, ?_, fun i hi => ?_⟩⟩
    · rw [(pu_o _ 28 _ _ 26 (by omega)).1, (fr 26 (by unfold S2829; omega)).1]
      exact hc.1
    · rw [(pu_o _ 28 _ _ (26 + 1) (by omega)).1, (fr (26 + 1) (by unfold S2829; omega)).1]
      exact (hc.2 u hu).1
    · show (pu p2 28 _ _).1 28 u = _
      rw [pu_get, e28, setT_L]
      by_cases z : u = t
      · rw [if_pos ⟨rfl, z⟩, if_pos z]
      · rw [if_neg (fun y => z y.2), if_neg z]
        exact (hc.2 u hu).2.1
    · show (pu p2 28 _ _).1 29 (u * 14 + i) = _
      have hu2 : u < pT P := hu
      rw [(pu_o _ 28 _ _ 29 (by omega)).1, inv, hjk, setT_A]
      rw [setT_L] at hi
      by_cases z : u = t
      · subst z
        rw [if_pos rfl] at hi ⊢
        unfold delA
        by_cases y1 : i < k
        · rw [if_neg (by omega), if_pos y1]
          exact (hc.2 u hu2).2.2 i (by omega)
        · rw [if_pos (by omega), if_neg y1, show u * 14 + i + 1 = u * 14 + (i + 1) by omega]
          exact (hc.2 u hu2).2.2 (i + 1) (by omega)
      · rw [if_neg z] at hi ⊢
        have := (hw.2 u hu2).2.1
        rw [if_neg (by omega)]
        exact (hc.2 u hu2).2.2 i hi
theorem laid_ag {f g : Nat → Int32} : ∀ {p : Nat} {l : List Stq}, (∀ j, p ≤ j → j ≤ p + offs l → g j = f j) → laid f p l → laid g p l
  | _, [], _, _ => trivial
  | p, s :: t, e, h => by
    obtain ⟨a, b, c⟩ := h
    have hs : offs (s :: t) = wdt s + offs t := rfl
    have h1 := wdt_pos s
    refine ⟨by rw [e p (by omega) (by omega)]; exact a, fun z => ?_, laid_ag (fun j hj1 hj2 => e j (by omega) (by omega)) c⟩
    have h2 : wdt s = 2 := by unfold wdt; rw [if_pos z]
    rw [e (p + 1) (by omega) (by omega)]
    exact b z
def S124 (a : Nat) : Prop := a = 124
end EDT
