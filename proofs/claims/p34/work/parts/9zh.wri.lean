/-! THE TEXT WRITTEN: bytes in words, words in the buffer, the buffer flushed -/
def pwF (f : Nat → Nat) : Nat → Int32
  | 0 => 0
  | m + 1 => pwF f m ||| (nI (f m) <<< (nI (24 - 8 * m) &&& 31))
theorem pwF_ag {f g : Nat → Nat} : ∀ {m : Nat}, (∀ r, r < m → f r = g r) → pwF f m = pwF g m
  | 0, _ => rfl
  | m + 1, h => by
    show pwF f m ||| _ = pwF g m ||| _
    rw [pwF_ag (fun r hr => h r (by omega)), h m (by omega)]
theorem nI_bits {c j : Nat} (hc : c < 256) (hj : 8 ≤ j) : (nI c).toBitVec.getLsbD j = false := by
  have e : (nI c).toBitVec = BitVec.ofNat 32 c := rfl
  rw [e, BitVec.getLsbD_ofNat, Nat.testBit_lt_two_pow (Nat.lt_of_lt_of_le hc (Nat.pow_le_pow_right (by omega) hj : 2 ^ 8 ≤ 2 ^ j)), Bool.and_false]
theorem shl_bit {x : Int32} {s i : Nat} (hs : s = 0 ∨ s = 8 ∨ s = 16 ∨ s = 24) (hi : i < 32) : (x <<< (nI s &&& 31)).toBitVec.getLsbD i = (!decide (i < s) && x.toBitVec.getLsbD (i - s)) := by
  rcases hs with rfl | rfl | rfl | rfl
  · rw [show (nI 0 &&& 31) = 0 by decide]
    simp
  · rw [show (nI 8 &&& 31) = 8 by decide]
    simp [hi]
    rw [BitVec.getLsbD_eq_getElem (show i - 8 < 32 by omega)]
  · rw [show (nI 16 &&& 31) = 16 by decide]
    simp [hi]
    rw [BitVec.getLsbD_eq_getElem (show i - 16 < 32 by omega)]
  · rw [show (nI 24 &&& 31) = 24 by decide]
    simp [hi]
    rw [BitVec.getLsbD_eq_getElem (show i - 24 < 32 by omega)]
theorem sar_bit {x : Int32} {s j : Nat} (hs : s = 0 ∨ s = 8 ∨ s = 16 ∨ s = 24) (hj : s + j < 32) : (x >>> (nI s &&& 31)).toBitVec.getLsbD j = x.toBitVec.getLsbD (s + j) := by
  have h32 : j < 32 := by omega
  rcases hs with rfl | rfl | rfl | rfl
  · rw [show (nI 0 &&& 31) = 0 by decide]
    simp
  · rw [show (nI 8 &&& 31) = 8 by decide]
    simp [BitVec.getElem_sshiftRight, hj, h32]
  · rw [show (nI 16 &&& 31) = 16 by decide]
    simp [BitVec.getElem_sshiftRight, hj, h32]
  · rw [show (nI 24 &&& 31) = 24 by decide]
    simp [BitVec.getElem_sshiftRight, hj, h32]
theorem pw_bit {f : Nat → Nat} (hf : ∀ r, f r < 256) : ∀ (m : Nat), m ≤ 4 → ∀ i, i < 4 → ∀ j, j < 8 → (pwF f m).toBitVec.getLsbD (24 - 8 * i + j) = (decide (i < m) && (nI (f i)).toBitVec.getLsbD j)
  | 0, _, i, hi, j, hj => by
    rw [decide_eq_false (by omega), Bool.false_and]
    show (0#32).getLsbD _ = false
    exact BitVec.getLsbD_zero
  | m + 1, hm, i, hi, j, hj => by
    show (pwF f m ||| (nI (f m) <<< (nI (24 - 8 * m) &&& 31))).toBitVec.getLsbD (24 - 8 * i + j) = _
    rw [Int32.toBitVec_or, BitVec.getLsbD_or, pw_bit hf m (by omega) i hi j hj, shl_bit (by omega) (by omega)]
    rcases Nat.lt_trichotomy i m with q | q | q
    · rw [decide_eq_true q, decide_eq_true (show i < m + 1 by omega), nI_bits (hf m) (by omega), Bool.and_false, Bool.or_false]
    · subst q
      rw [decide_eq_false (show ¬ i < i by omega), decide_eq_true (show i < i + 1 by omega), decide_eq_false (show ¬ 24 - 8 * i + j < 24 - 8 * i by omega), show 24 - 8 * i + j - (24 - 8 * i) = j by omega, Bool.false_and, Bool.false_or]
      rfl
    · rw [decide_eq_false (show ¬ i < m by omega), decide_eq_false (show ¬ i < m + 1 by omega), decide_eq_true (show 24 - 8 * i + j < 24 - 8 * m by omega)]
      rfl
theorem pw_byte {f : Nat → Nat} {m i : Nat} (hf : ∀ r, f r < 256) (hm : m ≤ 4) (hi : i < m) : (pwF f m >>> (nI (8 * (3 - i)) &&& 31)) &&& (255 : Int32) = nI (f i) := by
  apply Int32.toBitVec_inj.mp
  apply BitVec.eq_of_getLsbD_eq
  intro j hj
  rw [Int32.toBitVec_and, BitVec.getLsbD_and, show ((255 : Int32)).toBitVec = 255#32 from rfl, bit255 j hj]
  by_cases h8 : j < 8
  · rw [sar_bit (by omega) (by omega), show 8 * (3 - i) + j = 24 - 8 * i + j by omega, pw_bit hf m hm i (by omega) j h8, decide_eq_true h8, decide_eq_true hi, Bool.and_true, Bool.true_and]
  · rw [decide_eq_false h8, Bool.and_false, nI_bits (hf i) (by omega)]
theorem wB_byte {f : Nat → Nat} {m i : Nat} (hf : ∀ r, f r < 256) (hm : m ≤ 4) (hi : i < m) : wB (pwF f m) i &&& (255 : Int32) = nI (f i) := by
  unfold wB
  rw [app_byte _ (3 - i) (by omega), pw_byte hf hm hi]
def wr (g : Nat → Int32) : List Int32 := (List.range 8).map g
theorem wr_len {g : Nat → Int32} : (wr g).length = 8 := by unfold wr; rw [List.length_map, List.length_range]
theorem wr_get {g : Nat → Int32} {k : Nat} (h : k < 8) : (wr g).getD k 0 = g k := by
  unfold wr
  rw [List.getD_eq_getElem?_getD, List.getElem?_map, List.getElem?_range h]
  rfl
theorem wr_ag {g g' : Nat → Int32} (h : ∀ i, i < 8 → g i = g' i) : wr g = wr g' := by
  unfold wr
  exact List.map_congr_left fun y hy => h y (List.mem_range.mp hy)
theorem wr_set {g : Nat → Int32} {k : Nat} {v : Int32} : (wr g).set k v = wr (fun i => if i = k then v else g i) := by
  apply List.ext_getElem?
  intro z
  unfold wr
  rw [List.getElem?_set, List.getElem?_map, List.getElem?_map, List.length_map, List.length_range]
  by_cases e : k = z
  · subst e
    rw [if_pos rfl]
    by_cases q : k < 8
    · rw [if_pos q, List.getElem?_range q]
      show some v = some (if k = k then v else g k)
      rw [if_pos rfl]
    · rw [if_neg q, List.getElem?_eq_none (by rw [List.length_range]; omega)]
      rfl
  · rw [if_neg e]
    by_cases q : z < 8
    · rw [List.getElem?_range q]
      show some (g z) = some (if z = k then v else g z)
      rw [if_neg (fun h => e h.symm)]
    · rw [List.getElem?_eq_none (by rw [List.length_range]; omega)]
      rfl
/-- what the writer changes in the class -/
def FWr (h h' : PH) : Prop := Fr (fun a => a = 1 ∨ a = 2) h h' ∧ ∀ j, j ≠ 3 → h'.1 1 j = h.1 1 j
theorem FWr.refl (h : PH) : FWr h h := ⟨Fr.refl h, fun _ _ => rfl⟩
theorem FWr.trans {h h' h'' : PH} (f : FWr h h') (g : FWr h' h'') : FWr h h'' := ⟨f.1.trans g.1, fun j hj => (g.2 j hj).trans (f.2 j hj)⟩
section WRI
variable {h : PH} {D : gDS} {buf : Nat}
theorem w_flush {g : Nat → Int32} {t : Nat → Nat} {B L : Nat} (hB : tI D buf (wr g)) (hg : ∀ q, q < 5 → g (1 + q) = pwF (fun r => t (B + 4 * q + r)) (min 4 (L - (B + 4 * q)))) (hL : B ≤ L ∧ L ≤ B + 20) (ht : ∀ j, t j < 128) (h3 : h.1 1 3 = nI B) (hb : ∀ j, j < B → h.1 2 j &&& (255 : Int32) = nI (t j)) (hn : B + 20 ≤ 700) : ∃ h' D', F_L_flush (h, D) (rf buf) = some (h', D') ∧ tI D' buf (wr (fun i => if 1 ≤ i ∧ i ≤ 5 then 0 else g i)) ∧ h'.1 1 3 = nI (B + 20) ∧ (∀ j, j < L → h'.1 2 j &&& (255 : Int32) = nI (t j)) ∧ FWr h h' ∧ gE (fun j => j = buf) D D' ∧ D'.2 = D.2 ∧ D'.1.length = D.1.length := by
  obtain ⟨h', a1, a2, a3, a4, a5⟩ := c_apnd (p0 := g 1) (p1 := g 2) (p2 := g 3) (p3 := g 4) (p4 := g 5) hn h3
  have rd : ∀ k, k < 8 → gIld D (rf buf) 1 (nI k) = some (g k) := fun k hk => by
    rw [gIld_t hB (by rw [wr_len]; exact hk) (by omega), wr_get hk]
  have sl : ∀ q, q < 5 → sel (g 1) (g 2) (g 3) (g 4) (g 5) q = g (1 + q) := fun q hq => by
    have c : q = 0 ∨ q = 1 ∨ q = 2 ∨ q = 3 ∨ q = 4 := by omega
    rcases c with rfl | rfl | rfl | rfl | rfl <;> rfl
  have hby : ∀ j, j < L → h'.1 2 j &&& (255 : Int32) = nI (t j) := fun j hj => by
    rw [a5 j]
    by_cases q : B ≤ j
    · rw [if_pos ⟨q, by omega⟩, sl _ (by omega), hg _ (by omega), wB_byte (fun r => by have := ht (B + 4 * ((j - B) / 4) + r); omega) (Nat.min_le_left _ _) (by omega)]
      congr 2
      omega
    · rw [if_neg (fun z => q z.1)]
      exact hb j (by omega)
  suffices hs : ∃ u, F_L_flush (h, D) (rf buf) = some u ∧ ∃ D', u = (h', D') ∧ tI D' buf (wr (fun i => if 1 ≤ i ∧ i ≤ 5 then 0 else g i)) ∧ gE (fun j => j = buf) D D' ∧ D'.2 = D.2 ∧ D'.1.length = D.1.length by
    obtain ⟨u, b1, D', rfl, b2, b3, b4, b5⟩ := hs
    exact ⟨h', D', b1, b2, a3, hby, ⟨a2, a4⟩, b3, b4, b5⟩
  unfold F_L_flush
  rw [i1, rd 1 (by omega), Option.bind_some, i2, rd 2 (by omega), Option.bind_some, i3, rd 3 (by omega), Option.bind_some, i4, rd 4 (by omega), Option.bind_some, i5, rd 5 (by omega), Option.bind_some, a1, Option.bind_some]
  dsimp only
  refine loop_ind0 (fun k s => k ≤ 5 ∧ ∃ D', s = (nI (k + 1), (h', D')) ∧ tI D' buf (wr (fun i => if 1 ≤ i ∧ i ≤ k then 0 else g i)) ∧ gE (fun j => j = buf) D D' ∧ D'.2 = D.2 ∧ D'.1.length = D.1.length) _ 5 ⟨Nat.zero_le _, D, rfl, ?_, gE.rf D, rfl, rfl⟩ (fun k s hI => ?_)
  · rw [wr_ag (g' := g) (fun i _ => if_neg (by omega))]
    exact hB
  · obtain ⟨hk, D', rfl, b1, b2, b3, b4⟩ := hI
    dsimp only
    rcases Nat.lt_or_ge k 5 with q | q
    · have n1 : ¬ (6 : Int32) ≤ nI (k + 1) := fun z => by
        have := (nI_le' (a := 6) (b := k + 1) (by omega) (by omega)).mp z
        omega
      have s1 := gIst_t (v := (0 : Int32)) b1 (a := k + 1) (by rw [wr_len]; omega) (by omega)
      rw [wr_set] at s1
      refine Or.inr ⟨q, ?_⟩
      rw [if_neg n1, s1, Option.bind_some, nI_add]
      refine ⟨_, rfl, q, _, rfl, ?_, b2.tr (gSet_E (Or.inl rfl)), b3, gSet_len.trans b4⟩
      rw [wr_ag (g := fun i => if 1 ≤ i ∧ i ≤ k + 1 then 0 else g i) (g' := fun i => if i = k + 1 then 0 else if 1 ≤ i ∧ i ≤ k then 0 else g i) (fun i _ => by
        by_cases z : i = k + 1
        · rw [if_pos z, if_pos (by omega)]
        · rw [if_neg z]
          by_cases y : 1 ≤ i ∧ i ≤ k
          · rw [if_pos y, if_pos (by omega)]
          · rw [if_neg y, if_neg (by omega)])]
      exact gSet_at (tI_lt b1)
    · obtain rfl : k = 5 := by omega
      exact Or.inl ⟨_, if_pos (Int32.le_refl _), D', rfl, b1, b2, b3, b4⟩
/-- the buffer behind the text T -/
def gT (T : List Nat) (i : Nat) : Int32 := if i = 0 then nI T.length else if i ≤ 5 then pwF (fun r => T.getD (T.length / 20 * 20 + 4 * (i - 1) + r) 0) (min 4 (T.length - (T.length / 20 * 20 + 4 * (i - 1)))) else 0
/-- the text T is written, partly in the class, partly in the buffer -/
def TW (h : PH) (D : gDS) (buf : Nat) (T : List Nat) : Prop := tI D buf (wr (gT T)) ∧ h.1 1 3 = nI (T.length / 20 * 20) ∧ (∀ j, j < T.length / 20 * 20 → h.1 2 j &&& (255 : Int32) = nI (T.getD j 0)) ∧ ∀ j, T.getD j 0 < 128
theorem TW.ext {D' : gDS} {T : List Nat} {W : Nat → Prop} (hT : TW h D buf T) (x : gE W D D') (hw : ¬ W buf) : TW h D' buf T := ⟨x.tI hw hT.1, hT.2⟩
theorem getD_snoc {T : List Nat} {c j : Nat} : (T ++ [c]).getD j 0 = if j < T.length then T.getD j 0 else if j = T.length then c else 0 := by
  rw [List.getD_eq_getElem?_getD, List.getD_eq_getElem?_getD]
  by_cases q : j < T.length
  · rw [if_pos q, List.getElem?_append_left q]
  · rw [if_neg q, List.getElem?_append_right (by omega)]
    by_cases z : j = T.length
    · rw [if_pos z, z, Nat.sub_self]
      rfl
    · rw [if_neg z, List.getElem?_eq_none (by show 1 ≤ _; omega)]
      rfl
theorem w_put {T : List Nat} {c : Nat} (hT : TW h D buf T) (hc : c < 128) (hl : T.length < 680) : ∃ h' D', F_L_put (h, D) (rf buf) (nI c) = some (h', D') ∧ TW h' D' buf (T ++ [c]) ∧ FWr h h' ∧ gE (fun j => j = buf) D D' ∧ D'.2 = D.2 := by
  obtain ⟨t1, t2, t3, t4⟩ := hT
  have hL' : (T ++ [c]).length = T.length + 1 := by rw [List.length_append]; rfl
  have t4' : ∀ j, (T ++ [c]).getD j 0 < 128 := fun j => by
    rw [getD_snoc]
    split
    · exact t4 j
    · split <;> omega
  generalize hLL : T.length = L at *
  have rd : ∀ k, k < 8 → gIld D (rf buf) 1 (nI k) = some (gT T k) := fun k hk => by
    rw [gIld_t t1 (by rw [wr_len]; exact hk) (by omega), wr_get hk]
  have g0 : gT T 0 = nI L := by
    unfold gT
    rw [if_pos rfl, hLL]
  obtain ⟨q, hq⟩ : ∃ q, q = L % 20 / 4 := ⟨_, rfl⟩
  have hq5 : q < 5 := by omega
  have s1 := gIst_t (v := gT T (1 + q) ||| (nI c <<< (nI (24 - 8 * (L % 4)) &&& 31))) t1 (a := 1 + q) (by rw [wr_len]; omega) (by omega)
  rw [wr_set] at s1
  have b1 : tI (gSet D buf (.inr (.inl (1, wr (fun i => if i = 1 + q then gT T (1 + q) ||| (nI c <<< (nI (24 - 8 * (L % 4)) &&& 31)) else gT T i))))) buf (wr (fun i => if i = 1 + q then gT T (1 + q) ||| (nI c <<< (nI (24 - 8 * (L % 4)) &&& 31)) else gT T i)) := gSet_at (tI_lt t1)
  have x1 : gE (fun j => j = buf) D (gSet D buf (.inr (.inl (1, wr (fun i => if i = 1 + q then gT T (1 + q) ||| (nI c <<< (nI (24 - 8 * (L % 4)) &&& 31)) else gT T i))))) := gSet_E (Or.inl rfl)
  have m1 : (gSet D buf (.inr (.inl (1, wr (fun i => if i = 1 + q then gT T (1 + q) ||| (nI c <<< (nI (24 - 8 * (L % 4)) &&& 31)) else gT T i))))).2 = D.2 := rfl
  generalize gSet D buf (.inr (.inl (1, wr (fun i => if i = 1 + q then gT T (1 + q) ||| (nI c <<< (nI (24 - 8 * (L % 4)) &&& 31)) else gT T i)))) = D4 at *
  have r4 : gIld D4 (rf buf) 1 (nI 0) = some (nI L) := by
    rw [gIld_t b1 (by rw [wr_len]; omega) (by omega), wr_get (by omega), if_neg (by omega), g0]
  have s2 := gIst_t (v := nI (L + 1)) b1 (a := 0) (by rw [wr_len]; omega) (by omega)
  rw [wr_set] at s2
  have b2 : tI (gSet D4 buf (.inr (.inl (1, wr (fun i => if i = 0 then nI (L + 1) else if i = 1 + q then gT T (1 + q) ||| (nI c <<< (nI (24 - 8 * (L % 4)) &&& 31)) else gT T i))))) buf (wr (fun i => if i = 0 then nI (L + 1) else if i = 1 + q then gT T (1 + q) ||| (nI c <<< (nI (24 - 8 * (L % 4)) &&& 31)) else gT T i)) := gSet_at (tI_lt b1)
  have x2 : gE (fun j => j = buf) D (gSet D4 buf (.inr (.inl (1, wr (fun i => if i = 0 then nI (L + 1) else if i = 1 + q then gT T (1 + q) ||| (nI c <<< (nI (24 - 8 * (L % 4)) &&& 31)) else gT T i))))) := x1.tr (gSet_E (Or.inl rfl))
  have m2 : (gSet D4 buf (.inr (.inl (1, wr (fun i => if i = 0 then nI (L + 1) else if i = 1 + q then gT T (1 + q) ||| (nI c <<< (nI (24 - 8 * (L % 4)) &&& 31)) else gT T i))))).2 = D.2 := m1
  generalize gSet D4 buf (.inr (.inl (1, wr (fun i => if i = 0 then nI (L + 1) else if i = 1 + q then gT T (1 + q) ||| (nI c <<< (nI (24 - 8 * (L % 4)) &&& 31)) else gT T i)))) = D6 at *
  -- the words of the longer text over the old base
  have wq : ∀ p, p < 5 → (if (1 + p) = 0 then nI (L + 1) else if (1 + p) = 1 + q then gT T (1 + q) ||| (nI c <<< (nI (24 - 8 * (L % 4)) &&& 31)) else gT T (1 + p)) = pwF (fun r => (T ++ [c]).getD (L / 20 * 20 + 4 * p + r) 0) (min 4 (L + 1 - (L / 20 * 20 + 4 * p))) := fun p hp => by
    have gp : gT T (1 + p) = pwF (fun r => T.getD (L / 20 * 20 + 4 * p + r) 0) (min 4 (L - (L / 20 * 20 + 4 * p))) := by
      unfold gT
      rw [if_neg (by omega), if_pos (by omega), hLL, show 1 + p - 1 = p by omega]
    rw [if_neg (by omega)]
    by_cases z : p = q
    · subst z
      rw [if_pos rfl, gp, show min 4 (L - (L / 20 * 20 + 4 * p)) = L % 4 by omega, show min 4 (L + 1 - (L / 20 * 20 + 4 * p)) = L % 4 + 1 by omega]
      show _ = pwF _ (L % 4) ||| (nI ((T ++ [c]).getD (L / 20 * 20 + 4 * p + L % 4) 0) <<< (nI (24 - 8 * (L % 4)) &&& 31))
      rw [getD_snoc, if_neg (by omega), if_pos (by omega), pwF_ag (g := fun r => (T ++ [c]).getD (L / 20 * 20 + 4 * p + r) 0) (fun r hr => by rw [getD_snoc, if_pos (by omega)])]
    · rw [if_neg (by omega), gp, show min 4 (L + 1 - (L / 20 * 20 + 4 * p)) = min 4 (L - (L / 20 * 20 + 4 * p)) by omega]
      exact pwF_ag (fun r hr => by rw [getD_snoc, if_pos (by omega)])
  unfold F_L_put
  have e1 : nI L - nI L / (20 : Int32) * (20 : Int32) = nI (L % 20) := nI_mod (b := 20) (by omega) (by omega) (by omega)
  have e2 : nI (L % 20) / (4 : Int32) = nI q := by
    rw [i4, nI_div (by omega) (by omega), ← hq]
  have e3 : nI L - nI L / (4 : Int32) * (4 : Int32) = nI (L % 4) := nI_mod (b := 4) (by omega) (by omega) (by omega)
  have e4 : (24 : Int32) - (8 : Int32) * nI (L % 4) = nI (24 - 8 * (L % 4)) := by
    rw [i8, nI_mul, show (24 : Int32) = nI 24 from rfl, nI_sub (by omega)]
  have e5 : nI (L + 1) - nI (L + 1) / (20 : Int32) * (20 : Int32) = nI ((L + 1) % 20) := nI_mod (b := 20) (by omega) (by omega) (by omega)
  dsimp only
  rw [i0, rd 0 (by omega), Option.bind_some, g0, e1, e2, i1, nI_add, rd (1 + q) (by omega), Option.bind_some, Option.bind_some, e3, e4, s1, Option.bind_some, r4, Option.bind_some, nI_add, s2, Option.bind_some]
  have r6 : gIld D6 (rf buf) 1 (nI 0) = some (nI (L + 1)) := by
    rw [gIld_t b2 (by rw [wr_len]; omega) (by omega), wr_get (by omega), if_pos rfl]
  rw [r6, Option.bind_some, e5]
  by_cases z : (L + 1) % 20 = 0
  · have hT' : L + 1 = L / 20 * 20 + 20 := by omega
    obtain ⟨h', D', f1, f2, f3, f4, f5, f6, f7, f8⟩ := w_flush (t := fun j => (T ++ [c]).getD j 0) (B := L / 20 * 20) (L := L + 1) b2 wq (by omega) t4' t2 (fun j hj => by rw [t3 j hj, getD_snoc, if_pos (by omega)]) (by omega)
    rw [z, if_neg (fun y => y rfl), f1, Option.bind_some]
    refine ⟨h', D', rfl, ⟨?_, ?_, ?_, t4'⟩, f5, x2.tr f6, f7.trans m2⟩
    · rw [wr_ag (g' := fun i => if 1 ≤ i ∧ i ≤ 5 then 0 else if i = 0 then nI (L + 1) else if i = 1 + q then gT T (1 + q) ||| (nI c <<< (nI (24 - 8 * (L % 4)) &&& 31)) else gT T i) (fun i hi => ?_)]
      · exact f2
      · unfold gT
        rw [hL']
        by_cases y0 : i = 0
        · rw [if_pos y0, if_neg (by omega), if_pos y0]
        · rw [if_neg y0]
          by_cases y1 : i ≤ 5
          · rw [if_pos y1, if_pos (by omega), show min 4 (L + 1 - ((L + 1) / 20 * 20 + 4 * (i - 1))) = 0 by omega]
            rfl
          · rw [if_neg y1, if_neg (by omega), if_neg y0, if_neg (by omega)]
            rw [if_neg y0, if_neg y1]
    · rw [hL', f3, show (L + 1) / 20 * 20 = L / 20 * 20 + 20 by omega]
    · intro j hj
      rw [hL'] at hj
      exact f4 j (by omega)
  · rw [if_pos (show ¬ nI ((L + 1) % 20) = nI 0 from nz_I z (by omega))]
    refine ⟨h, D6, rfl, ⟨?_, ?_, ?_, t4'⟩, FWr.refl h, x2, m2⟩
    · rw [wr_ag (g' := fun i => if i = 0 then nI (L + 1) else if i = 1 + q then gT T (1 + q) ||| (nI c <<< (nI (24 - 8 * (L % 4)) &&& 31)) else gT T i) (fun i hi => ?_)]
      · exact b2
      · by_cases y0 : i = 0
        · unfold gT
          rw [hL', if_pos y0, if_pos y0]
        · by_cases y1 : i ≤ 5
          · have := wq (i - 1) (by omega)
            rw [show 1 + (i - 1) = i by omega] at this
            rw [this]
            unfold gT
            rw [hL', if_neg y0, if_pos y1, show (L + 1) / 20 * 20 = L / 20 * 20 by omega]
          · unfold gT
            rw [hL', if_neg y0, if_neg y1, if_neg y0, if_neg (by omega), if_neg y0, if_neg y1]
    · rw [hL', t2, show (L + 1) / 20 * 20 = L / 20 * 20 by omega]
    · intro j hj
      rw [hL', show (L + 1) / 20 * 20 = L / 20 * 20 by omega] at hj
      rw [t3 j hj, getD_snoc, if_pos (by omega)]
end WRI
