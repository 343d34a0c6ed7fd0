/-! ONE CALL ON BOTH SIDES -/
def okS (N : NT) (P : PT) (H : HT) : Prop := WN N ∧ WP N P ∧ HW H
def SF (a : Nat) : Prop := SC a ∨ a = 166
def cOut (h : PH) (r : Option (Int32 × PH)) (k v : Int32) (N' : NT) (P' : PT) (H' : HT) : Prop := ∃ h', r = some (k, h') ∧ Fr SF h h' ∧ CA h' N' P' ∧ CH h' N' H' ∧ (k = 0 → h'.2 166 0 = v.toInt64)
def rOut (h : PH) (r : Option (Int32 × PH)) (k v : Int32) (N' : NT) (P' : PT) (H' : HT) : Prop := ∃ w h', r = some (w, h') ∧ FR h h' ∧ h'.1 122 0 = k ∧ RA h' N' P' ∧ RH h' H' ∧ (k = 0 → w = v)
def opOK (N : NT) (P : PT) (H : HT) (F G : PH → Option (Int32 × PH)) : Prop := ∀ h, CA h N P → CH h N H → ∃ k v N' P' H', okS N' P' H' ∧ cOut h (F h) k v N' P' H' ∧ ∀ h1, RA h1 N P → RH h1 H → rOut h1 (G h1) k v N' P' H'
/-- the buffer's text, on both sides -/
def TX (h : PH) (T : Nat) : Prop := T ≤ 700 ∧ h.1 1 3 = nI T ∧ h.1 122 2 = nI T ∧ ∀ j, j < T → h.1 123 j = h.1 2 j &&& (255 : Int32)
def LI (h : PH) : Prop := ∃ N P H T, okS N P H ∧ CA h N P ∧ CH h N H ∧ RA h N P ∧ RH h H ∧ TX h T ∧ h.1 1 11 = h.1 122 7
section OPB
variable {h : PH} {N : NT} {P : PT} {H : HT}
theorem RA.sf {h' : PH} (hN9 : WN N) (c : RA h N P) (f : Fr SF h h') : RA h' N P := c.fr hN9 f (by unfold SF SC; omega) (fun j hj => by unfold SF SC; omega)
theorem RH.sf {h' : PH} (hw : HW H) (c : RH h H) (f : Fr SF h h') : RH h' H := c.up hw (by rw [(f 122 (by unfold SF SC; omega)).1]) (fun a h1 h2 => (f a (by unfold SF SC; omega)).1)
theorem CA.FR {h' : PH} (c : CA h N P) (f : FR h h') : CA h' N P := ⟨c.1.same (fun j hj => (f.1 _ (by omega)).1), c.2.1.same (fun j h1 h2 => (f.1 _ (by omega)).1), c.2.2.same (fun j hj => (f.1 _ (by omega)).1)⟩
theorem CH.FR {h' : PH} (c : CH h N H) (f : FR h h') : CH h' N H := c.up (fun a ha h1 => (f.1 a (by omega)).1)
theorem TX.sf {h' : PH} {T : Nat} (c : TX h T) (f : Fr SF h h') : TX h' T := by
  obtain ⟨c1, c2, c3, c4⟩ := c
  have e : ∀ a, a = 1 ∨ a = 2 ∨ a = 122 ∨ a = 123 → h'.1 a = h.1 a := fun a ha => (f a (by unfold SF SC; omega)).1
  refine ⟨c1, by rw [e 1 (by omega)]; exact c2, by rw [e 122 (by omega)]; exact c3, ?_⟩
  rw [e 123 (by omega), e 2 (by omega)]
  exact c4
theorem TX.FR {h' : PH} {T : Nat} (c : TX h T) (f : FR h h') : TX h' T := by
  obtain ⟨c1, c2, c3, c4⟩ := c
  refine ⟨c1, by rw [(f.1 1 (by omega)).1]; exact c2, by rw [f.2 2 (by omega)]; exact c3, ?_⟩
  rw [(f.1 123 (by omega)).1, (f.1 2 (by omega)).1]
  exact c4
theorem lg_self (a : Int64) : lg_cmp a a = 0 := by
  unfold lg_cmp
  split
  · rename_i q
    exact (Int64.lt_irrefl q).elim
  · rw [if_pos rfl]
theorem turn_op {F G : PH → Option (Int32 × PH)} {L : Nat} {xs : Nat → Int32} {T : Nat} {j : Int32} {B : Int32 × PH → Option ((Int32 × PH) ⊕ Int32)} (hop : opOK N P H F G) (ok : okS N P H) (hca : CA h N P) (hch : CH h N H) (hra : RA h N P) (hrh : RH h H) (htx : TX h T) (her : h.1 1 11 = h.1 122 7) (hs : scr L xs h)
    (hB : ∀ z, scr L xs z.2 → B z = (G z.2).bind fun z28 => if (F_X8_thrown z28.2) = z.1 then if ¬ z.1 = 0 then some (.inl (j, z28.2)) else (ldl 1 z28.2 166 (0 : Int32)).bind fun z29 => if (lg_cmp z29 z28.1.toInt64) = 0 then some (.inl (j, z28.2)) else some (.inr ((0 : Int32))) else some (.inr ((0 : Int32)))) :
    ∃ h', (F h).bind B = some (.inl (j, h')) ∧ LI h' ∧ scr L xs h' := by
  obtain ⟨k, v, N', P', H', ok', ⟨h2, e1, f1, ca, ch, ho⟩, g⟩ := hop h hca hch
  have hs2 := scr_fr hs f1 (by unfold SF SC; omega) (by unfold SF SC; omega)
  obtain ⟨w, h3, e2, f2, t2, ra, rh, hv⟩ := g h2 (hra.sf ok.1 f1) (hrh.sf ok.2.2 f1)
  have hs3 : scr L xs h3 := scr_of hs2 (f2.1 167 (by omega)).1 (f2.1 168 (by omega)).1
  rw [e1, Option.bind_some, hB (k, h2) hs2, e2, Option.bind_some]
  dsimp only
  rw [if_pos (show F_X8_thrown h3 = k from t2)]
  have fin : LI h3 := ⟨N', P', H', T, ok', ca.FR f2, ch.FR f2, ra, rh, (htx.sf f1).FR f2, by
    rw [(f2.1 1 (by omega)).1, f2.2 7 (by omega), (f1 1 (by unfold SF SC; omega)).1, (f1 122 (by unfold SF SC; omega)).1]
    exact her⟩
  by_cases q : k = 0
  · rw [if_neg (fun z => z q), show (0 : Int32) = nI 0 from rfl, ldl_in (by omega) (by omega), Option.bind_some, (f2.1 166 (by omega)).2, ho q, hv q]
    exact ⟨h3, if_pos (lg_self _), fin, hs3⟩
  · rw [if_pos q]
    exact ⟨h3, rfl, fin, hs3⟩
/-- a value of the class's, written out -/
theorem out_val {v : Int32} (hca : CA h N P) (hch : CH h N H) : cOut h ((asl 1 h 166 (0 : Int32) v.toInt64).bind fun h2 => some (((0 : Int32), h2))) 0 v N P H := by
  rw [show (0 : Int32) = nI 0 from rfl, asl_in (by omega) (by omega), Option.bind_some]
  have f : Fr (fun a => a = 166) h (pul h 166 0 v.toInt64) := Fr.pul rfl
  refine ⟨_, rfl, f.mono (fun i hi => Or.inr hi), ⟨hca.1.fr f (fun j hj => by omega), hca.2.1.same (fun j h1 h2 => (f j (by omega)).1), hca.2.2.fr f (fun j hj => by omega)⟩, hch.up (fun a h1 h2 => (f a (by omega)).1), fun _ => ?_⟩
  rw [pul_get, if_pos ⟨rfl, rfl⟩]
theorem out_val2 {v : Int32} {h0 : PH} (f0 : Fr SC h0 h) (hca : CA h N P) (hch : CH h N H) : cOut h0 ((asl 1 h 166 (0 : Int32) v.toInt64).bind fun h2 => some (((0 : Int32), h2))) 0 v N P H := by
  obtain ⟨h', a, b, c⟩ := out_val (v := v) hca hch
  exact ⟨h', a, (f0.mono (fun i hi => Or.inl hi)).trans b, c⟩
theorem out_thr {k : Int32} (hk : k ≠ 0) (hca : CA h N P) (hch : CH h N H) {v : Int32} : cOut h (some (k, h)) k v N P H := ⟨h, rfl, Fr.refl h, hca, hch, fun z => absurd z hk⟩
/-! an index in its bounds, or out of them -/
theorem rng {n : Nat} (hn : n < 2 ^ 30) (a : Int32) : (∃ k, k < n ∧ a = nI k) ∨ (a < 0 ∨ ¬ a < nI n) := by
  rcases (inferInstance : Decidable (a < 0)) with q | q
  · rcases (inferInstance : Decidable (a < nI n)) with q2 | q2
    · exact Or.inr (Or.inr q2)
    · left
      have e := zi_of a
      rw [e] at q q2
      have hb := Int32.le_toInt a
      have hb2 := Int32.toInt_lt a
      have q : ¬ zi a.toInt < zi 0 := q
      rw [zi_lt (by omega) (by omega)] at q
      rw [nI_zi, zi_lt (by omega) (by omega)] at q2
      refine ⟨a.toInt.toNat, by omega, ?_⟩
      rw [nI_zi, show ((a.toInt.toNat : Nat) : Int) = a.toInt by omega]
      exact e
  · exact Or.inr (Or.inl q)
theorem in_no {n : Nat} {a : Int32} (hn : n < 2 ^ 30) (q : a < 0 ∨ ¬ a < nI n) : F_X8_in h a (0 : Int32) (nI n - (1 : Int32)) = 0 := by
  unfold F_X8_in
  rcases q with q | q
  · rw [if_pos q]
  · by_cases z : a < 0
    · rw [if_pos z]
    · rw [if_neg z, if_pos]
      have e := zi_of a
      have hb := Int32.le_toInt a
      have hb2 := Int32.toInt_lt a
      rw [e, nI_zi, zi_lt (by omega) (by omega)] at q
      show nI n - zi 1 < a
      rw [e, nI_zi, zi_sub, zi_lt (by omega) (by omega)]
      omega
theorem in_ok {n k : Nat} (hn : n < 2 ^ 30) (q : k < n) : F_X8_in h (nI k) (0 : Int32) (nI n - (1 : Int32)) = 1 := by
  have : nI n - (1 : Int32) = nI (n - 1) := nI_sub (a := n) (b := 1) (by omega)
  rw [this]
  exact in_yes (lo := 0) (by omega) (by omega) (by omega)
theorem req_ok {α : Type} {n k : Nat} {x y : α} (hn : n < 2 ^ 30) (q : k < n) : (if nI k < 0 then x else if nI k < nI n then y else x) = y := by
  rw [if_neg (nI_pos (by omega)), if_pos (nI_lt q (by omega))]
theorem req_no {α : Type} {n : Nat} {a : Int32} {x y : α} (q : a < 0 ∨ ¬ a < nI n) : (if a < 0 then x else if a < nI n then y else x) = x := by
  by_cases z : a < 0
  · rw [if_pos z]
  · rw [if_neg z]
    rcases q with q | q
    · exact absurd q z
    · rw [if_neg q]
/-- the reference's heap behind a call that throws -/
theorem r_thr {c w v : Int32} (hN9 : WN N) (hw : HW H) (ra : RA h N P) (rh : RH h H) (hc : c ≠ 0) : rOut h (some (w, pu (pu h 122 0 (0 : Int32)) 122 0 c)) c v N P H :=
  ⟨w, _, rfl, (FR.pu (by omega)).trans (FR.pu (by omega)), by rw [pu_get, if_pos ⟨rfl, rfl⟩], (ra.u0 hN9).u0 hN9, (rh.u0 hw (by omega)).u0 hw (by omega), fun z => absurd z hc⟩
theorem r_val {v : Int32} (hN9 : WN N) (hw : HW H) (ra : RA h N P) (rh : RH h H) : rOut h (some (v, pu h 122 0 (0 : Int32))) 0 v N P H :=
  ⟨v, _, rfl, FR.pu (by omega), pu_0, ra.u0 hN9, rh.u0 hw (by omega), fun _ => rfl⟩
theorem noE_ok {k : Nat} (hN9 : WN N) (ra : RA h N P) (h0 : h.1 122 0 = 0) (hk : k < wE N) : F_X8_noEdge h (nI k) = some ((0 : Int32), h) := by
  have := hN9.2.2.1
  unfold F_X8_noEdge
  rw [r_edges ra.1, Option.bind_some, in_ok (by omega) hk, if_pos (by decide), fails_0 _ h0]
  rfl
theorem noE_no {a : Int32} (hN9 : WN N) (ra : RA h N P) (h0 : h.1 122 0 = 0) (q : a < 0 ∨ ¬ a < nI (wE N)) : F_X8_noEdge h a = some ((1 : Int32), pu h 122 0 (1 : Int32)) := by
  have := hN9.2.2.1
  unfold F_X8_noEdge
  rw [r_edges ra.1, Option.bind_some, in_no (by omega) q, if_neg (fun z => z rfl), fails_1 h0 (by decide)]
  rfl
theorem noA_ok {k : Nat} (hN9 : WN N) (ra : RA h N P) (h0 : h.1 122 0 = 0) (hk : k < 2 * wE N) : F_X8_noArc h (nI k) = some ((0 : Int32), h) := by
  have := hN9.2.2.1
  unfold F_X8_noArc
  rw [r_arcs ra.1, Option.bind_some, in_ok (by omega) hk, if_pos (by decide), fails_0 _ h0]
  rfl
theorem noA_no {a : Int32} (hN9 : WN N) (ra : RA h N P) (h0 : h.1 122 0 = 0) (q : a < 0 ∨ ¬ a < nI (2 * wE N)) : F_X8_noArc h a = some ((1 : Int32), pu h 122 0 (1 : Int32)) := by
  have := hN9.2.2.1
  unfold F_X8_noArc
  rw [r_arcs ra.1, Option.bind_some, in_no (by omega) q, if_neg (fun z => z rfl), fails_1 h0 (by decide)]
  rfl
theorem noN_ok {k : Nat} (hN9 : WN N) (ra : RA h N P) (h0 : h.1 122 0 = 0) (hk : k < wN N) : F_X8_noNode h (nI k) = some ((0 : Int32), h) := by
  have := hN9.1
  unfold F_X8_noNode
  rw [r_nodes ra.1, Option.bind_some, in_ok (by omega) hk, if_pos (by decide), fails_0 _ h0]
  rfl
theorem noN_no {a : Int32} (hN9 : WN N) (ra : RA h N P) (h0 : h.1 122 0 = 0) (q : a < 0 ∨ ¬ a < nI (wN N)) : F_X8_noNode h a = some ((1 : Int32), pu h 122 0 (1 : Int32)) := by
  have := hN9.1
  unfold F_X8_noNode
  rw [r_nodes ra.1, Option.bind_some, in_no (by omega) q, if_neg (fun z => z rfl), fails_1 h0 (by decide)]
  rfl
theorem noT_ok {k : Nat} (hp : WP N P) (ra : RA h N P) (h0 : h.1 122 0 = 0) (hk : k < pT P) : F_X8_noTour h (nI k) = some ((0 : Int32), h) := by
  have := hp.1.1
  unfold F_X8_noTour
  rw [r_tours ra.2.2.2, Option.bind_some, in_ok (by omega) hk, if_pos (by decide), fails_0 _ h0]
  rfl
theorem noT_no {a : Int32} (hp : WP N P) (ra : RA h N P) (h0 : h.1 122 0 = 0) (q : a < 0 ∨ ¬ a < nI (pT P)) : F_X8_noTour h a = some ((1 : Int32), pu h 122 0 (1 : Int32)) := by
  have := hp.1.1
  unfold F_X8_noTour
  rw [r_tours ra.2.2.2, Option.bind_some, in_no (by omega) q, if_neg (fun z => z rfl), fails_1 h0 (by decide)]
  rfl
theorem reqE_ok {k : Nat} (hN9 : WN N) (ca : CA h N P) (hk : k < wE N) : F_X7_requireEdge h (nI k) = some (.inr ()) := by
  have := hN9.2.2.1
  unfold F_X7_requireEdge
  rw [ca.1.2.2.1]
  exact req_ok (by omega) hk
theorem reqE_no {a : Int32} (ca : CA h N P) (q : a < 0 ∨ ¬ a < nI (wE N)) : F_X7_requireEdge h a = some (.inl 1) := by
  unfold F_X7_requireEdge
  rw [ca.1.2.2.1]
  exact req_no q
theorem reqA_ok {k : Nat} (hN9 : WN N) (ca : CA h N P) (hk : k < 2 * wE N) : F_X7_requireArc h (nI k) = some (.inr ()) := by
  have := hN9.2.2.1
  unfold F_X7_requireArc
  rw [ca.1.2.2.1, i2, nI_mul]
  exact req_ok (by omega) hk
theorem reqA_no {a : Int32} (ca : CA h N P) (q : a < 0 ∨ ¬ a < nI (2 * wE N)) : F_X7_requireArc h a = some (.inl 1) := by
  unfold F_X7_requireArc
  rw [ca.1.2.2.1, i2, nI_mul]
  exact req_no q
theorem reqN_ok {k : Nat} (hN9 : WN N) (ca : CA h N P) (hk : k < wN N) : F_X7_requireNode h (nI k) = some (.inr ()) := by
  have := hN9.1
  unfold F_X7_requireNode
  rw [ca.1.1]
  exact req_ok (by omega) hk
theorem reqN_no {a : Int32} (ca : CA h N P) (q : a < 0 ∨ ¬ a < nI (wN N)) : F_X7_requireNode h a = some (.inl 1) := by
  unfold F_X7_requireNode
  rw [ca.1.1]
  exact req_no q
theorem reqT_ok {k : Nat} (hp : WP N P) (ca : CA h N P) (hk : k < pT P) : F_X7_requireTour h (nI k) = some (.inr ()) := by
  have := hp.1.1
  unfold F_X7_requireTour
  rw [ca.2.2.1]
  exact req_ok (by omega) hk
theorem reqT_no {a : Int32} (ca : CA h N P) (q : a < 0 ∨ ¬ a < nI (pT P)) : F_X7_requireTour h a = some (.inl 1) := by
  unfold F_X7_requireTour
  rw [ca.2.2.1]
  exact req_no q
end OPB
