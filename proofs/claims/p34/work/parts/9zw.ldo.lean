/-! LOADS STAY WITHIN THE CAPACITY; one operation's outcome -/
section LDO
variable {N : NT} {P : PT}
theorem ld_set {t n u : Nat} {a : Nat → Nat} : wLd N (setT P t n a) u = if u = t then sumN (fun k => wDe N (a k / 2)) n else wLd N P u := by
  unfold wLd
  by_cases q : u = t
  · subst q
    rw [if_pos rfl, setT_L1]
    refine sumN_ag (fun j hj => ?_)
    rw [setT_A, if_pos rfl]
  · rw [if_neg q, setT_L2 P q]
    refine sumN_ag (fun j hj => ?_)
    rw [setT_A, if_neg q]
theorem ld_ins {n k x : Nat} {a : Nat → Nat} (hk : k ≤ n) : sumN (fun j => wDe N (insA a k x j / 2)) (n + 1) = sumN (fun j => wDe N (a j / 2)) n + wDe N (x / 2) := by
  have h := sum_ins1 (f := fun j => wDe N (a j / 2)) (g := fun j => wDe N (insA a k x j / 2)) hk (fun j hj => by
    unfold insA
    rw [if_pos hj]) (fun j h1 h2 => by
    unfold insA
    rw [if_neg (by omega), if_neg (by omega), Nat.add_sub_cancel])
  rw [h]
  congr 2
  unfold insA
  rw [if_neg (Nat.lt_irrefl k), if_pos rfl]
theorem LDs.ins {t k x : Nat} (h : LDs N P) (hk : k ≤ pL P t) (hr : wRoom N P t (x / 2) = true) : LDs N (setT P t (pL P t + 1) (insA (pA P t) k x)) := fun u hu => by
  have hr := of_decide_eq_true hr
  rw [ld_set]
  by_cases q : u = t
  · rw [if_pos q, ld_ins hk]
    exact hr
  · rw [if_neg q]
    exact h u hu
theorem LDs.del {t k : Nat} (h : LDs N P) (ht : t < pT P) (hk : k < pL P t) : LDs N (dpl P t k) := fun u hu => by
  unfold dpl
  rw [ld_set]
  by_cases q : u = t
  · rw [if_pos q]
    have h1 := ld_ins (N := N) (n := pL P t - 1) (k := k) (x := pA P t k) (a := delA (pA P t) k) (by omega)
    rw [ins_del, show pL P t - 1 + 1 = pL P t by omega] at h1
    have h2 := h t ht
    unfold wLd at h2
    omega
  · rw [if_neg q]
    exact h u hu
theorem LDs.flip {t k : Nat} (h : LDs N P) (ht : t < pT P) : LDs N (fpl P t k) := fun u hu => by
  unfold fpl
  rw [ld_set]
  by_cases q : u = t
  · rw [if_pos q]
    have h2 := h t ht
    unfold wLd at h2
    have e : sumN (fun j => wDe N (fplA (pA P t) k j / 2)) (pL P t) = sumN (fun j => wDe N (pA P t j / 2)) (pL P t) := sumN_ag (fun j hj => by
      show wDe N ((if j = k then wFl (pA P t k) else pA P t j) / 2) = _
      by_cases z : j = k
      · rw [if_pos z, wFl_div, z]
      · rw [if_neg z])
    rw [e]
    exact h2
  · rw [if_neg q]
    exact h u hu
theorem LDs.bpl {e c : Nat} {w : Int} (h : LDs N P) (h13 : R13 P) (hg : gdB N P e (some (c, w))) : LDs N (bpl P e c) := by
  obtain ⟨t, k, s, h1, h2, h3, h4, h5, h6⟩ := hg c w rfl
  have := h13 t h1
  rw [h4, bpl_at (by omega) h3]
  have hr : wRoom N P t e = true := by
    unfold cdB at h5
    rw [Bool.and_eq_true] at h5
    exact h5.1
  exact h.ins h2 (by rw [show (2 * e + s) / 2 = e by omega]; exact hr)
theorem ld_fB (hN : WN N) (hp : WP N P) (h : LDs N P) : ∀ j, j ≤ wE N → LDs N (fB N P j).1
  | 0, _ => h
  | j + 1, hj => by
    have ih := ld_fB hN hp h j (by omega)
    obtain ⟨w1, -⟩ := fB_WP hN hp j (by omega)
    have f1 : fB N P (j + 1) = if wWt N (fB N P j).1 j then (match wBest N (fB N P j).1 j with
        | none => fB N P j
        | some (c, _) => (bpl (fB N P j).1 j c, (fB N P j).2 + 1)) else fB N P j := rfl
    rw [f1]
    by_cases y : wWt N (fB N P j).1 j = true
    · rw [if_pos y]
      have hu := wt_none y
      have h13 := room13 hN w1.1 w1.2.1 (by omega) hu
      cases hb : wBest N (fB N P j).1 j with
      | none => exact ih
      | some p =>
        obtain ⟨c, w⟩ := p
        exact ih.bpl h13 (best_gd hb)
    · rw [if_neg y]
      exact ih
theorem ld_chP (hN : WN N) (hp : WP N P) (h : LDs N P) : LDs N (chP N P) := by
  unfold chP
  cases hc : (wChg N P).1 with
  | none => exact h
  | some e =>
    obtain ⟨-, -, g3, -⟩ := fG_ok hN hp (wE N) (Nat.le_refl _)
    obtain ⟨he, -, hg⟩ := g3 e hc
    obtain ⟨t, k, c, w, h1, h2, h3, h4, h5, h6, h7⟩ := chE_WP hN hp he (by omega)
    obtain ⟨ht, -⟩ := wTour_lt h1
    obtain ⟨hk, hke⟩ := wPos_lt h2
    have hp1 := dpl_WP hp ht hk h3
    show LDs N (chE N P e)
    rw [h6]
    exact (h.del ht hk).bpl (room13 hN hp1.1 hp1.2.1 he (dpl_none hp.2.1 ht hk hke)) (best_gd h4)
theorem ld_impr (hN : WN N) : ∀ (m : Nat) {P : PT} {s : Int}, WP N P → LDs N P → LDs N (impr N m P s).1
  | 0, _, _, _, h => h
  | m + 1, P, s, hp, h => by
    have e : impr N (m + 1) P s = (match (wChg N P).1 with
      | none => (P, s)
      | some _ => impr N m (chP N P) (s + (wChg N P).2)) := rfl
    rw [e]
    cases hc : (wChg N P).1 with
    | none => exact h
    | some e => exact ld_impr hN m (chP_WP hN hp) (ld_chP hN hp h)
theorem LDs.opn {d : Nat} (h : LDs N P) : LDs N (opl N P d) := fun u hu => by
  have hu : u < pT P + 1 := hu
  unfold wLd
  rw [opl_L]
  by_cases q : u = pT P
  · rw [if_pos q]
    exact Nat.zero_le _
  · rw [if_neg q]
    exact h u (by omega)
end LDO
/-- a city with its plan and the random numbers -/
def CST (D : gDS) (rnd c : Nat) (N : NT) (svr : gRF) (e b d hh tt g : Nat) (P : PT) : Prop := CV D c N svr e b d hh tt g ∧ GP D P hh tt ∧ (e ≠ tt ∧ b ≠ tt ∧ g ≠ tt) ∧ RD D rnd
/-- what stands before an operation -/
def OPI (h : PH) (D : gDS) (rnd c : Nat) (N : NT) (svr : gRF) (e b d hh tt g : Nat) (P : PT) (H : HT) : Prop := okS N P H ∧ LDs N P ∧ CA h N P ∧ CH h N H ∧ CST D rnd c N svr e b d hh tt g P ∧ (1 ≤ wE N ∧ wE N ≤ 8 ∧ 1 ≤ wD N)
/-- what comes of it -/
def OPR (h : PH) (D : gDS) (rnd c : Nat) (N : NT) (svr : gRF) (e b d hh tt g : Nat) (P : PT) (H : HT) (ic : Int32) (h' : PH) (D' : gDS) : Prop := ∃ P' H', ((ic = 0 ∧ P' = P ∧ H' = H) ∨ (ic = 1 ∧ H' = hpush H N P false)) ∧ okS N P' H' ∧ LDs N P' ∧ CA h' N P' ∧ CH h' N H' ∧ h'.1 1 = h.1 1 ∧ (∃ hh' tt', CST D' rnd c N svr e b d hh' tt' g P' ∧ (tt' = tt ∨ D.1.length ≤ tt')) ∧ gE (fun j => j = c ∨ j = tt ∨ j = rnd) D D' ∧ gMd 7850 20000 D D'
section OPS
variable {h : PH} {D : gDS} {rnd c : Nat} {N : NT} {svr : gRF} {e b d hh tt g : Nat} {P : PT} {H : HT}
theorem CST.rnd_ {D' : gDS} (hS : CST D rnd c N svr e b d hh tt g P) (x : gE (fun j => j = rnd) D D') (hR' : RD D' rnd) : CST D' rnd c N svr e b d hh tt g P := by
  obtain ⟨h1, h2, h3, h4⟩ := hS
  have hk := h4.kt
  exact ⟨h1.exW x (fun i hi z => by
    have z : i = rnd := z
    refine ⟨fun y => ?_, by rw [z, hk]; omega, by rw [z, hk]; omega, Or.inl (by rw [z, hk]; omega)⟩
    have := h1.1.tg
    rw [← y, z, hk] at this
    omega), h2.exC x (fun i hi z => by have z : i = rnd := z; rw [z, hk]; omega), h3, hR'⟩
theorem CST.ext {D' : gDS} (hS : CST D rnd c N svr e b d hh tt g P) (x : gE noW D D') : CST D' rnd c N svr e b d hh tt g P := ⟨hS.1.ext x, hS.2.1.ext x, hS.2.2.1, hS.2.2.2.ext x id⟩
theorem OPI.rnd_ {D' : gDS} (hI : OPI h D rnd c N svr e b d hh tt g P H) (x : gE (fun j => j = rnd) D D') (hR' : RD D' rnd) : OPI h D' rnd c N svr e b d hh tt g P H := ⟨hI.1, hI.2.1, hI.2.2.1, hI.2.2.2.1, hI.2.2.2.2.1.rnd_ x hR', hI.2.2.2.2.2⟩
/-- nothing is changed -/
theorem OPR.no {D' : gDS} (hI : OPI h D rnd c N svr e b d hh tt g P H) (x : gE (fun j => j = rnd) D D') (hR' : RD D' rnd) (m : gMd 7850 20000 D D') : OPR h D rnd c N svr e b d hh tt g P H 0 h D' :=
  ⟨P, H, Or.inl ⟨rfl, rfl, rfl⟩, hI.1, hI.2.1, hI.2.2.1, hI.2.2.2.1, rfl, ⟨hh, tt, hI.2.2.2.2.1.rnd_ x hR', Or.inl rfl⟩, x.mono (fun _ _ z => Or.inr (Or.inr z)), m⟩
theorem Fr1 {h h' : PH} (f : Fr SC h h') : h'.1 1 = h.1 1 := (f 1 (by unfold SC; omega)).1
end OPS
