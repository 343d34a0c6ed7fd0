/-! the reference's build and improve, behind their remember -/
section RBL
variable {h : PH} {N : NT} {P : PT} {H : HT}
/-- what the reference's calls keep: the class, the buffer, the text's length, the error's place -/
def FR (h h' : PH) : Prop := (∀ a, a < 122 ∨ a = 123 ∨ 166 ≤ a → h'.1 a = h.1 a ∧ h'.2 a = h.2 a) ∧ ∀ j, j = 2 ∨ j = 7 → h'.1 122 j = h.1 122 j
theorem FR.refl (h : PH) : FR h h := ⟨fun _ _ => ⟨rfl, rfl⟩, fun _ _ => rfl⟩
theorem FR.trans {h h' h'' : PH} (f : FR h h') (g : FR h' h'') : FR h h'' := ⟨fun a ha => ⟨(g.1 a ha).1.trans (f.1 a ha).1, (g.1 a ha).2.trans (f.1 a ha).2⟩, fun j hj => (g.2 j hj).trans (f.2 j hj)⟩
theorem FR.of {S : Nat → Prop} {h h' : PH} (f : Fr S h h') (hs : ∀ i, S i → 124 ≤ i ∧ i ≤ 165) : FR h h' := ⟨fun a ha => f a (fun z => by have := hs a z; omega), fun j _ => by rw [(f 122 (fun z => by have := hs 122 z; omega)).1]⟩
theorem FrR.FR {h h' : PH} (f : FrR h h') : FR h h' := ⟨fun a ha => ⟨(f a (by unfold S128; omega)).1 (by omega), (f a (by unfold S128; omega)).2.2⟩, fun j hj => (f 122 (by unfold S128; omega)).2.1 j (by omega)⟩
theorem FR.pu {h : PH} {j : Nat} {v : Int32} (hj : j ≠ 2 ∧ j ≠ 7) : FR h (pu h 122 j v) := ⟨fun a ha => pu_o h 122 j v a (by omega), fun i hi => by rw [pu_get, if_neg (fun y => by omega)]⟩
def SR (a : Nat) : Prop := a = 124 ∨ a = 165 ∨ a = 126
end RBL
