/-! THE BEGINNING: both sides as they are made -/
def ad7 (a : Nat) (u : Nat → Nat) : Nat → Nat := fun i => match i with
  | 0 => a
  | k + 1 => u k
def f00 : Nat → Int32 := fun _ => 0
abbrev co00 : CoS := (f00, f00, f00, f00, 0)
abbrev top00 : TopS := (f00, 0, 0, 1, 2, 20, 0, 0)
abbrev mu00 : MuS := (f00, f00, f00, f00, 0, f00)
abbrev tr00 : TrS := (f00, f00, f00, f00, f00, f00, 4)
abbrev mx00 : MxS := (0, 0, fun _ => 0, f00, f00, f00)
abbrev ma00 : MaS := (0, 0, 0, f00, f00, 0, 0, 0, 0, -1, 0)
abbrev mG00 : MdG := (20, 0, 0, 0, f00, f00, 0, f00, f00)
set_option maxRecDepth 100000 in
theorem wf7_eq (V : EV) (a : Nat) (u : Nat → Nat) : wf7 V a u = wC V (ad7 a u) top00 (f00, 0, 0, 0) 0 (fun _ => co00) mu00 (f00, f00, 0, 0) tr00 ma00 3 mx00 := rfl
set_option maxRecDepth 100000 in
theorem wf8_eq (V : EV) (a : Nat) (u : Nat → Nat) : wf8 V a u = wM V (ad7 a u) (0, f00) (0, 0, 0, 0, 0) (0, f00, f00, f00) (0, f00, f00, f00, f00, f00) (0, 0, 0, 0, 0, 0, f00, f00, f00, f00, f00, f00, f00, f00) (0, f00, f00, f00, f00, f00) (0, f00, f00, f00, f00, f00, f00, f00, f00) (0, 0, 0, 0, 0, f00, f00, f00) mG00 := rfl
theorem bsr_00 : BSR top00 (fun _ => co00) mu00 tr00 mx00 (0, f00) (0, 0, 0, 0, 0) (0, f00, f00, f00) (0, f00, f00, f00, f00, f00) mG00 := by
  refine ⟨⟨[], ?_, ?_, rfl⟩, ⟨by decide, by decide, by decide⟩, ⟨0, .inl rfl, rfl, .inl ⟨rfl, rfl⟩⟩, ⟨20, by decide, by decide, rfl, rfl⟩, ⟨rfl, rfl⟩, fun t ht => rfl, ⟨0, by decide, rfl, rfl, fun j hj => absurd hj (Nat.not_lt_zero _), .inl ⟨rfl, rfl⟩⟩⟩
  · exact ⟨by decide, fun j c h => by simp at h⟩
  · exact ⟨rfl, by decide, fun j c h => by simp at h⟩
