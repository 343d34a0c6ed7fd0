/-! FROM THE LAW'S ENTRY -/
section STO
variable {p : Program} {e : Env} {s : State} {m : MethodId} {below : List Frame} {meth : Method} {c : Code}
theorem start_open (l : Launch) (hflags : l.flags = flags0) {b L : Nat} {xs : Nat → Int32} (hL : L ≤ 260) (hT : TurnOK L xs) (C0 : lw_At p s m meth c b L xs) : W p l e room_1 s m #[Value.ref b] below meth c s.heap [] 0 0 (lw_Z below #[Value.ref b] s) (entryFrame m ([Value.ref b] : List Value).toArray 25) := by
  have C1 := C0
  obtain ⟨hx, hb, hr, hml, hown, hts, hX, hbl, hlocks, hgv, hnm⟩ := C0
  have hn : ∀ w ∈ flatC narrow_1, w.before #[Value.ref b] s = true := fun w hw => flat_of_before _ hgv w (List.mem_append_right _ hw)
  obtain ⟨D, cA, hK⟩ := kn_all hts
  obtain ⟨adC, h167, h2005, hGK⟩ := ini_GK hn hts hK hX hbl
  have hl := lv_entry ([Value.ref b] : List Value) (n := 25) (by show 1 ≤ 25; omega)
  rw [lg_entry_eq]
  generalize (lg_sl ([Value.ref b]) ++ List.replicate (25 - (lg_sl ([Value.ref b])).length) Slot.unset).toArray = ls at hl ⊢
  have hl : lv_has ls 25 [(0, .ref b)] := hl
  refine lv_iconst (v := 1) hx hb dcd_0 (by decide) ?_
  refine lv_istore_n (i := 1) hx hb dcd_1 rfl hl (by omega) rfl (fun ls1 hl1 => ?_)
  refine lv_iconst (v := 0) hx hb dcd_2 (by decide) ?_
  refine lv_istore_n (i := 2) hx hb dcd_3 rfl hl1 (by omega) rfl (fun ls2 hl2 => ?_)
  have hl2 : lv_has ls2 25 [(2, .int 0), (1, .int 1), (0, .ref b)] := hl2
  exact law_loop hflags hL hT C1 hK h167 h2005 hGK 2 0 rfl s.heap [] ls2 0 0 va_S.rf hl2.1 hl2.2.1 (lv_at hl2 2 rfl) (lv_at hl2 1 rfl) (lv_at hl2 0 rfl) (Nat.zero_le _) (Nat.zero_le _)
end STO
