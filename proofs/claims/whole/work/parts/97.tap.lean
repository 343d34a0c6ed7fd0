section TAP
variable {h : PH} {N : NT} {P : PT} {H : HT} {L T : Nat} {xs : Nat → Int32} {j : Int32}
theorem turn_app {p0 p1 p2 p3 p4 : Int32} {B : Int32 × PH → Option ((Int32 × PH) ⊕ Int32)} (ok : okS N P H) (hca : CA h N P) (hch : CH h N H) (hra : RA h N P) (hrh : RH h H) (htx : TX h T) (her : h.1 1 11 = h.1 122 7) (hs : scr L xs h)
    (hB : ∀ z, scr L xs z.2 → B z = (F_X8_append z.2 p0 p1 p2 p3 p4).bind fun z13 => if z.1 = z13.1 then some (.inl (j, z13.2)) else some (.inr ((0 : Int32)))) :
    ∃ h', (F_X7_append h p0 p1 p2 p3 p4).bind B = some (.inl (j, h')) ∧ LI h' ∧ scr L xs h' := by
  obtain ⟨x1, x2, x3, x4⟩ := htx
  by_cases hT : T + 20 ≤ 700
  · obtain ⟨g, a1, a2, a3, a4, a5⟩ := c_apnd (p0 := p0) (p1 := p1) (p2 := p2) (p3 := p3) (p4 := p4) hT x2
    have hs2 := scr_fr hs a2 (by omega) (by omega)
    obtain ⟨h', b1, b2, b3, b4, b5, b6⟩ := r_apnd (h := g) (p0 := p0) (p1 := p1) (p2 := p2) (p3 := p3) (p4 := p4) hT (by rw [(a2 122 (by omega)).1]; exact x3)
    rw [a1, Option.bind_some, hB _ hs2, b1, Option.bind_some]
    dsimp only
    rw [if_pos rfl]
    have f : Fr (fun a => a = 1 ∨ a = 2 ∨ a = 122 ∨ a = 123) h h' := (a2.mono (fun i hi => by omega)).trans (b2.mono (fun i hi => by omega))
    refine ⟨h', rfl, ⟨N, P, H, T + 20, ok, ⟨hca.1.fr f (fun i hi => by omega), hca.2.1.same (fun i h1 h2 => (f i (by omega)).1), hca.2.2.fr f (fun i hi => by omega)⟩, hch.up (fun i h1 h2 => (f i (by omega)).1), hra.fr ok.1 f (by omega) (fun i hi => by omega), hrh.up ok.2.2 (by rw [b5 12 (by omega) (by omega), (a2 122 (by omega)).1]) (fun i h1 h2 => (f i (by omega)).1), ⟨hT, by rw [(b2 1 (by omega)).1]; exact a3, b3, fun i hi => ?_⟩, ?_⟩, scr_fr hs f (by omega) (by omega)⟩
    · rw [b6, (b2 2 (by omega)).1, a5]
      by_cases z : T ≤ i ∧ i < T + 20
      · rw [if_pos z, if_pos z]
      · rw [if_neg z, if_neg z, (a2 123 (by omega)).1]
        exact x4 i (by omega)
    · rw [(b2 1 (by omega)).1, a4 11 (by omega), b5 7 (by omega) (by omega), (a2 122 (by omega)).1]
      exact her
  · have nc : ¬ (nI T + (20 : Int32)) ≤ (700 : Int32) := by
      rw [show (20 : Int32) = nI 20 from rfl, nI_add]
      exact nI_ge (a := 700) (by omega) (by omega)
    have e1 : F_X7_append h p0 p1 p2 p3 p4 = some ((-1 : Int32), h) := by
      unfold F_X7_append
      rw [x2, if_neg nc]
    have e2 : F_X8_append h p0 p1 p2 p3 p4 = some ((-1 : Int32), pu h 122 0 (0 : Int32)) := by
      unfold F_X8_append
      have e0 : (pu h 122 0 (0 : Int32)).1 122 2 = nI T := by rw [pu_get, if_neg (by omega), x3]
      rw [e0, if_neg nc]
    rw [e1, Option.bind_some, hB _ hs, e2, Option.bind_some]
    dsimp only
    rw [if_pos rfl]
    have f2 : FR h (pu h 122 0 (0 : Int32)) := FR.pu (by omega)
    refine ⟨_, rfl, ⟨N, P, H, T, ok, hca.FR f2, hch.FR f2, hra.u0 ok.1, hrh.u0 ok.2.2 (by omega), TX.FR ⟨x1, x2, x3, x4⟩ f2, ?_⟩, scr_of hs (f2.1 167 (by omega)).1 (f2.1 168 (by omega)).1⟩
    rw [(f2.1 1 (by omega)).1, f2.2 7 (by omega)]
    exact her
theorem turn_follow {a b : Int32} {B : Int32 × PH → Option ((Int32 × PH) ⊕ Int32)} (ok : okS N P H) (hca : CA h N P) (hch : CH h N H) (hra : RA h N P) (hrh : RH h H) (htx : TX h T) (her : h.1 1 11 = h.1 122 7) (hs : scr L xs h)
    (hB : ∀ z, scr L xs z.2 → B z = (F_X8_mayFollow z.2 a b).bind fun z35 => if (F_X8_thrown z35.2) = z.1 then if ¬ z.1 = 0 then some (.inl (j, z35.2)) else (ldl 1 z35.2 166 (0 : Int32)).bind fun z36 => (if z35.1 = 0 then (if (lg_cmp z36 (0 : Int64)) = 0 then some (.inl (j, z35.2)) else some (.inr ((0 : Int32)))) else (if (lg_cmp z36 (1 : Int64)) = 0 then some (.inl (j, z35.2)) else some (.inr ((0 : Int32))))) else some (.inr ((0 : Int32)))) :
    ∃ h', (F_L_mayFollow h a b).bind B = some (.inl (j, h')) ∧ LI h' ∧ scr L xs h' := by
  obtain ⟨k, v, hv01, ⟨h2, e1, f1, ca, ch, ho⟩, g⟩ := op_follow a b ok h hca hch
  have hs2 := scr_fr hs f1 (by unfold SF SC; omega) (by unfold SF SC; omega)
  obtain ⟨w, h3, e2, f2, t2, ra, rh, hv⟩ := g h2 (hra.sf ok.1 f1) (hrh.sf ok.2.2 f1)
  have hs3 : scr L xs h3 := scr_of hs2 (f2.1 167 (by omega)).1 (f2.1 168 (by omega)).1
  rw [e1, Option.bind_some, hB (k, h2) hs2, e2, Option.bind_some]
  dsimp only
  rw [if_pos (show F_X8_thrown h3 = k from t2)]
  have fin : LI h3 := ⟨N, P, H, T, ok, ca.FR f2, ch.FR f2, ra, rh, (htx.sf f1).FR f2, by
    rw [(f2.1 1 (by omega)).1, f2.2 7 (by omega), (f1 1 (by unfold SF SC; omega)).1, (f1 122 (by unfold SF SC; omega)).1]
    exact her⟩
  by_cases q : k = 0
  · rw [if_neg (fun z => z q), show (0 : Int32) = nI 0 from rfl, ldl_in (by omega) (by omega), Option.bind_some, (f2.1 166 (by omega)).2, ho q, hv q]
    refine ⟨h3, ?_, fin, hs3⟩
    rcases hv01 with rfl | rfl
    · rfl
    · rfl
  · rw [if_pos q]
    exact ⟨h3, rfl, fin, hs3⟩
end TAP
