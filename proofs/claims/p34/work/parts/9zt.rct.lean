/-! THE RANDOM CITY, WHOLE -/
section RCT
variable {h0 : PH} {D0 : gDS} {buf rnd c : Nat}
/-- what the random city gives -/
def RCO (h0 : PH) (D0 : gDS) (rnd buf : Nat) (N0 : NT) (P : PT) (H : HT) (c : Nat) (g : PH) (D' : gDS) (N' : NT) (e b d hh tt gg : Nat) (svr : gRF) : Prop := CV D' c N' svr e b d hh tt gg ∧ GP D' P0 hh tt ∧ (e ≠ tt ∧ b ≠ tt ∧ gg ≠ tt) ∧ CA g N' P0 ∧ CH g N' (hpush H N0 P true) ∧ WN N' ∧ g.1 1 3 = 0 ∧ RD D' rnd ∧ gE (fun j => j = buf ∨ j = rnd) D0 D' ∧ D0.1.length ≤ c
theorem sol_b {E : Nat} (h : E ≤ 8) : 2 * E * (2 * E) ≤ 256 := Nat.le_trans (Nat.mul_le_mul (show 2 * E ≤ 16 by omega) (show 2 * E ≤ 16 by omega)) (Nat.le_refl _)
set_option maxRecDepth 4000 in
theorem rc_end {s : gST} {N N0 : NT} {its : List Itm} {B : List (Nat × Nat × Nat)} {e b d hh tt : Nat} {P : PT} {H : HT} (hI : RCI h0 D0 buf rnd c s N its B e b d hh tt) (hs : ∀ a, a < 2 * wE N → wSv N a = wCo N a) (hE : wE N ≤ 8) (hl : (rend its).length ≤ 520) (hBl : B.length ≤ 100) (ok : okS N0 P H) (ca : CA h0 N0 P) (ch : CH h0 N0 H) :
    ∃ g D' N' gg svr, enB (rf c) (rf buf) (rf rnd) (nI 0, s) = some (.inr (.inr (.inr (rf c, (g, D'))))) ∧ RCO h0 D0 rnd buf N0 P H c g D' N' e b d hh tt gg svr ∧ wE N' = wE N ∧ wD N' = wD N ∧ gMd 270 301000 s.2 D' := by
  obtain ⟨h, D⟩ := s
  obtain ⟨y, D1, a1, a2, a3, a4, a5, a6⟩ := g_below hI.2.2.2.2.2.1 (show 0 < 2 by omega) (by omega)
  have I1 := rci_rnd hI a4 a3
  obtain ⟨hC, hP, ⟨hc0, hne1, hne2⟩, hW, hF, hR, hx, ⟨hN, hPR, hN2⟩, hG, ⟨hb0, hr0⟩⟩ := I1
  dsimp only at hC hP hW hF hR hx
  have hcr : ¬ c = rnd := by omega
  have hcb : ¬ c = buf := by omega
  have hbr : ¬ buf = rnd := fun z => by
    have := hR.kt
    rw [← z, hW.kt] at this
    omega
  have lD := hx.1
  have hsq := sol_b hE
  have nE : ∀ svl : Option (List Stq), wE (netOf N svl) = wE N := fun svl => by cases svl <;> rfl
  have nD : ∀ svl : Option (List Stq), wD (netOf N svl) = wD N := fun svl => by cases svl <;> rfl
  unfold enB
  dsimp only
  rw [show F_X10_below D (rf rnd) (2 : Int32) = _ from a1, Option.bind_some]
  by_cases z : y = 0
  · -- a service
    obtain ⟨p, D2, b1, b2, b3, b4, b5, b6⟩ := g_below hR (show 0 < 3 by omega) (by omega)
    obtain ⟨r, D3, l, tx, c1, c2, c3, c4, c5⟩ := x_random 4 D2 rnd p b3 (by omega) (by omega)
    have x13 : gE (fun j => j = rnd) D1 D3 := b4.tr c3
    have C3 : CO D3 c N none e b d hh tt none := x13.tO hcr hC
    obtain ⟨D4, s4, C4, y4, l4, m4⟩ : ∃ D4, gFst D3 (rf c) 8 2 (.inr (.inr r)) = some D4 ∧ CO D4 c N r e b d hh tt none ∧ gE (fun j => j = c) D3 D4 ∧ D4.1.length = D3.1.length ∧ D4.2 = D3.2 :=
      ⟨_, gFst_t C3 (by show 2 < 9; omega), gSet_at (tO_lt C3), gSet_E (Or.inl rfl), gSet_len, rfl⟩
    have hkc : kt D3 c = 108 := C3.tg
    have x14 : gE (fun j => j = rnd ∨ j = c) D1 D4 := (x13.mono (fun _ _ z => Or.inl z)).tr (y4.mono (fun _ _ z => Or.inr z))
    have hT0 : GTX D3 (p + 1) r l tx := GTY.GTX c2
    have up : ∀ m n A, GTX A n r l tx → GTX A (n + m) r l tx := fun m => by
      induction m with
      | zero => exact fun n A h => h
      | succ m ih => exact fun n A h => GTX.up (ih n A h)
    have hT3 : GTX D3 4 r l tx := by
      have := up (3 - p) (p + 1) D3 hT0
      rw [show p + 1 + (3 - p) = 4 by omega] at this
      exact this
    have hT4 : GTX D4 4 r l tx := GTX.ext y4 (fun i hi z => by have z : i = c := z; rw [z, hkc]; omega) hT3
    have W4 : TW h D4 buf (rend its) := hW.ext x14 (fun z => by omega)
    obtain ⟨s5, d1, d2⟩ := w_write (WO.rf W4) (r := some (.inr 18)) (bs := rend [(2, 4), (3, 0)]) (SS_c (j := 4) (by omega)) (by decide) (by show (rend its).length + 8 ≤ 680; omega)
    have x45 : gE (fun j => j = buf) D4 s5.2 := d2.2.2.1
    have C5 : CO s5.2 c N r e b d hh tt none := x45.tO hcb C4
    have hT5 : GTX s5.2 4 r l tx := GTX.ext x45 (fun i hi z => by have z : i = buf := z; rw [z, W4.kt]; omega) hT4
    obtain ⟨r6, D6, e1, e2, e3, e4, e5⟩ := x_text 4 s5.2 r l tx 0 (by omega) hT5 (by omega)
    have ltx : (rend (tx 0)).length ≤ 90 := hT5.len 0
    have gtx := x_good hT5 0 3 (Or.inr rfl)
    have W6 : TW s5.1 D6 buf (rend its ++ rend [(2, 4), (3, 0)]) := d2.1.ext e4 id
    obtain ⟨s7, f1, f2⟩ := w_write (WO.rf W6) e2 (rend_lt gtx) (by rw [List.length_append]; show (rend its).length + 8 + _ ≤ 680; omega)
    have hSs : SS s7.2 (some (.inr 22)) ([59].map nI) := SS_c (j := 6) (by omega)
    have f2' : WO s7.1 s7.2 buf (rend its ++ rend [(2, 4), (3, 0)] ++ rend (tx 0)) (s7.1, s7.2) := WO.rf f2.1
    obtain ⟨s8, g1, g2⟩ := w_write f2' hSs (fun c hc => by simp at hc; omega) (by rw [List.length_append, List.length_append]; show (rend its).length + 8 + _ + 1 ≤ 680; omega)
    have et : rend its ++ rend [(2, 4), (3, 0)] ++ rend (tx 0) ++ [59] = rend (its ++ ([(2, 4), (3, 0)] ++ (tx 0 ++ [(0, 59)]))) := by
      rw [rend_app, rend_app, rend_app]
      show _ = rend its ++ (rend [(2, 4), (3, 0)] ++ (rend (tx 0) ++ [59]))
      simp only [List.append_assoc]
    rw [et] at g2
    have hst : toks ([(2, 4), (3, 0)] ++ (tx 0 ++ [(0, 59)])) = (2, 4) :: (toks (tx 0) ++ [(0, 59)]) := by
      rw [toks_app, toks_app]
      rfl
    have hlen : l.length ≤ 500 := by
      have := (gn_ok hT5.GN).2.1
      have : (2 : Nat) ^ 4 = 16 := rfl
      omega
    have hPR' : PRD (its ++ ([(2, 4), (3, 0)] ++ (tx 0 ++ [(0, 59)]))) N (some l) := pr_step hPR (by rw [hst]; exact st_serv hT5 (by omega) hlen) ⟨_, _, hst, fun _ => by show 4 < 7; omega⟩
    have hG' : goodF 0 (its ++ ([(2, 4), (3, 0)] ++ (tx 0 ++ [(0, 59)]))) := by
      refine goodF_app hG.1 ?_
      rw [hG.2]
      refine ⟨Or.inr (Or.inr (Or.inl ⟨rfl, by show 4 < 7; omega⟩)), fun z => by have : (0 : Nat) = 2 := z.1; omega, Or.inr (Or.inr (Or.inr rfl)), fun z => by have : (2 : Nat) = 3 := z.1; omega, ?_⟩
      show goodF 3 (tx 0 ++ [(0, 59)])
      exact goodF_app gtx ⟨Or.inl ⟨rfl, by show 59 < 128; omega, rfl, rfl, rfl⟩, fun z => by have : lastK 3 (tx 0) = 0 := z.1; omega, trivial⟩
    -- the frame
    have x46 : gE (fun j => j = buf) D4 D6 := x45.tr (e4.mono (fun _ _ z => absurd z id))
    have x67 : gE (fun j => j = buf) D6 s7.2 := f2.2.2.1
    have x78 : gE (fun j => j = buf) s7.2 s8.2 := g2.2.2.1
    have x48 : gE (fun j => j = buf) D4 s8.2 := (x46.tr x67).tr x78
    have P4 : RCP D0.1.length D4 N B e b d hh tt := hP.ext x14 (fun i hi z => by
      rcases z with z | z
      · exact Or.inl (by omega)
      · exact Or.inr (by rw [z]; exact hC.tg))
    have P8 : RCP D0.1.length s8.2 N B e b d hh tt := P4.ext x48 (fun i hi z => Or.inl (by have : i = buf := z; omega))
    have C8 : CO s8.2 c N r e b d hh tt none := x48.tO hcb C4
    have R8 : RD s8.2 rnd := (c4.ext y4 (fun z => hcr z.symm)).ext x48 (fun z => hbr z.symm)
    have xs : gE (fun j => j = buf ∨ j = rnd) D0 s8.2 := by
      refine (hx.onW x14 (fun i hi => ?_)).tr (x48.mono (fun _ _ z => Or.inl z))
      rcases hi with z | z
      · exact Or.inr (Or.inr z)
      · exact Or.inl (by omega)
    have GN8 : GN s8.2 4 r l := GN.ext x48 (fun i hi z vs t => by have := t.tg; have z : i = buf := z; rw [z, W4.kt] at this; omega) hT4.GN
    have hrn : r ≠ none := by
      obtain ⟨i, k, v, a, b, q1, -⟩ := hT5.GN
      rw [q1]
      exact fun z => by cases z
    have F8 : FWr h0 s8.1 := ((hF.trans d2.2.1).trans f2.2.1).trans g2.2.1
    obtain ⟨E1, g, E2, gg, k1, k2, k3, k4, k5, k6, k7, k8, k9, k10, k11, k12⟩ := rc_solve C8 P8 hc0 ⟨hne1, hne2⟩ g2.1 F8 R8 xs hN hPR' hG' hb0 hr0 (Or.inr ⟨l, rfl, hrn, GN8⟩) (by rw [← et]; simp only [List.length_append, List.length_singleton]; show (rend its).length + 8 + _ + 1 ≤ 660; omega) hBl ok ca ch
    refine ⟨g, E2, netOf N (some l), gg, r, ?_, ⟨k3, k4, ⟨hne1, hne2, k5⟩, k6, k7, k8, k9, k10, k11, hc0⟩, nE _, nD _, ?_⟩
    · obtain ⟨es, y1, y2, -⟩ := k3.2.1
      unfold jn
      dsimp only
      rw [if_neg (show ¬ ¬ nI y = 0 by rw [z]; exact fun y => y rfl), show F_X10_below D1 (rf rnd) (3 : Int32) = _ from b1, Option.bind_some]
      dsimp only
      rw [c1, Option.bind_some]
      dsimp only
      rw [s4, Option.bind_some, d1, Option.bind_some, gFr_t C5 (b := 2) rfl, Option.bind_some, show R_X9_text 4 s5.2 r (0 : Int32) = _ from e1, Option.bind_some]
      dsimp only
      rw [f1, Option.bind_some, show F_L_write (s7.1, s7.2) (rf buf) (some (.inr 22)) = _ from g1, Option.bind_some, k1, Option.bind_some, k2, Option.bind_some]
      dsimp only
      rw [gFr_t k3.1 (b := 3) rfl, Option.bind_some, gLen_q y1, y2, Option.bind_some, nE, if_neg (fun y => y rfl)]
    · have kk : knr p ≤ 7 := by
        have c : p = 0 ∨ p = 1 ∨ p = 2 := by omega
        rcases c with rfl | rfl | rfl <;> exact Nat.le_of_ble_eq_true rfl
      have e9 : kcl 4 = 240 := rfl
      have e8 : ksl 4 = 300000 := rfl
      have m1 : gMd (knr p) (4 * knr p) D D3 := ((gMd.eq a6).tr ((gMd.eq b6).tr c5)).mono (by omega) (by omega)
      have m2 : gMd (knr p + 240) (4 * knr p + 300000) D s8.2 := ((m1.tr (gMd.eq m4)).tr ((gMd.eq d2.2.2.2).tr (e5.tr ((gMd.eq f2.2.2.2).tr (gMd.eq g2.2.2.2))))).mono (by omega) (by omega)
      exact (m2.tr k12).mono (by omega) (by omega)
  · -- no service
    obtain ⟨E1, g, E2, gg, k1, k2, k3, k4, k5, k6, k7, k8, k9, k10, k11, k12⟩ := rc_solve hC hP hc0 ⟨hne1, hne2⟩ hW hF hR hx hN hPR hG.1 hb0 hr0 (svl := none) (Or.inl ⟨rfl, rfl, hs⟩) (by omega) hBl ok ca ch
    refine ⟨g, E2, netOf N none, gg, none, ?_, ⟨k3, k4, ⟨hne1, hne2, k5⟩, k6, k7, k8, k9, k10, k11, hc0⟩, nE _, nD _, ?_⟩
    · obtain ⟨es, y1, y2, -⟩ := k3.2.1
      unfold jn
      dsimp only
      rw [if_pos (nz_I z (by omega)), k1, Option.bind_some, k2, Option.bind_some]
      dsimp only
      rw [gFr_t k3.1 (b := 3) rfl, Option.bind_some, gLen_q y1, y2, Option.bind_some, nE, if_neg (fun y => y rfl)]
    · exact ((gMd.eq a6).tr k12).mono (by omega) (by omega)
end RCT
