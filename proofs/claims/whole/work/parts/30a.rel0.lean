/-! the memory behind both constructors -/
def c0i : Nat → Nat → Int32 := fun r => match r with
  | 2 => upd (fun _ => 0) 0 (nI 1)
  | 3 => upd (upd (upd (upd (fun _ => 0) 0 (nI 0)) 1 (nI 1)) 2 (nI 2)) 3 (nI 3)
  | 14 => upd (fun _ => 0) 0 (nI 1)
  | 15 => upd (upd (upd (upd (fun _ => 0) 0 (nI 0)) 1 (nI 1)) 2 (nI 2)) 3 (nI 3)
  | 56 => upd (fun _ => 0) 5 (nI 2)
  | 62 => upd (upd (upd (fun _ => 0) 0 (-1)) 1 (-1)) 2 (-1)
  | 68 => upd (fun _ => 0) 0 (nI 1)
  | 69 => upd (upd (upd (upd (fun _ => 0) 0 (nI 0)) 1 (nI 1)) 2 (nI 2)) 3 (nI 3)
  | 75 => upd (upd (upd (fun _ => 0) 0 (-1)) 1 (-1)) 2 (-1)
  | 77 => upd (upd (upd (upd (upd (upd (upd (upd (upd (upd (upd (upd (upd (upd (upd (upd (upd (upd (fun _ => 0) 0 (vp_nar .char (nI 97))) 1 (vp_nar .char (nI 116))) 2 (vp_nar .char (nI 111))) 3 (vp_nar .char (nI 109))) 4 (vp_nar .char (nI 115))) 5 (vp_nar .char (nI 32))) 6 (vp_nar .char (nI 112))) 7 (vp_nar .char (nI 97))) 8 (vp_nar .char (nI 105))) 9 (vp_nar .char (nI 114))) 10 (vp_nar .char (nI 32))) 11 (vp_nar .char (nI 105))) 12 (vp_nar .char (nI 110))) 13 (vp_nar .char (nI 32))) 14 (vp_nar .char (nI 111))) 15 (vp_nar .char (nI 117))) 16 (vp_nar .char (nI 116))) 17 (vp_nar .char (nI 32))
  | 78 => upd (upd (upd (upd (fun _ => 0) 0 (nI 1)) 1 (nI 2)) 2 (nI 3)) 3 (nI 3)
  | _ => fun _ => 0
def c0l : Nat → Nat → Int64 := fun r => match r with
  | 2 => fun k => if k = 2 then lN 1 else 0
  | 14 => fun k => if k = 2 then lN 1 else 0
  | _ => fun _ => 0
def c0r : Nat → Nat → Nat := fun _ _ => 5
def c0 : gm := (c0i, c0l, c0r)
section R0
variable {c' : gm}
theorem l0_at {c : gm} {r1 r2 : Nat} (h : ∀ j, j < 3 → c.1 r1 j = -1) : LsAt c r1 r2 (fun _ => -1) (fun _ _ => 0) := ⟨fun j hj => ⟨h j hj, Or.inl rfl⟩, fun j q i _ hq h12 _ => by
  have hq : (-1 : Int32) = nI q := hq
  have h1 := congrArg Int32.toInt hq
  rw [nI_toInt (by omega)] at h1
  have h2 : (-1 : Int32).toInt = -1 := rfl
  omega⟩
theorem net0 (f : F8 [70, 71] [5, 6] c0 c') {r : Nat} (h1 : r ∉ [68, 70, 71]) (h2 : r + 1 ∉ [68, 70, 71]) (e1 : c0i r 0 = 0) (e2 : ∀ k, c0i (r + 1) k = 0) : NetAt c' r 0 (fun _ _ => 0) := ⟨by rw [f.i h1]; exact e1, Nat.zero_le _, fun p q hp => absurd hp (Nat.not_lt_zero _), fun p _ => by rw [f.i h2]; exact e2 _⟩
theorem rel0 (f : F8 [70, 71] [5, 6] c0 c') (z70 : ∀ i, i < 64 → c'.1 70 i = bI (fxk (fun a => a) i)) (z71 : ∀ i, i < 6 → c'.1 71 i = nI 0) (h5 : c'.1 68 5 = nI 0) (h6 : c'.1 68 6 = nI 0) : Rel c' := by
  have hG : Gd 1 (fun a => a) (fixB (fun a => a) 1) := Gd_fix (Mr_id (by decide) (by decide))
  have e1 : fixB (fun a => a) 1 = 1 := by decide
  have row : ∀ r, r = 3 ∨ r = 69 → ∀ a, a < 4 → c0i r a = nI a := fun r hr a ha => by
    rcases hr with rfl | rfl
    · match a, ha with
      | 0, _ => rfl
      | 1, _ => rfl
      | 2, _ => rfl
      | 3, _ => rfl
      | a + 4, h => omega
    · match a, ha with
      | 0, _ => rfl
      | 1, _ => rfl
      | 2, _ => rfl
      | 3, _ => rfl
      | a + 4, h => omega
  have lst : ∀ r, r = 62 ∨ r = 75 → ∀ j, j < 3 → c0i r j = -1 := fun r hr j hj => by
    rcases hr with rfl | rfl
    · match j, hj with
      | 0, _ => rfl
      | 1, _ => rfl
      | 2, _ => rfl
      | j + 3, h => omega
    · match j, hj with
      | 0, _ => rfl
      | 1, _ => rfl
      | 2, _ => rfl
      | j + 3, h => omega
  have hT : Tab c' 2 1 (fun a => a) (fixB (fun a => a) 1) := ⟨by rw [f.i (by decide)]; rfl, by decide, by decide, by rw [f.l (by decide), e1]; rfl, by rw [e1]; decide, fun a ha => ⟨by rw [f.i (by decide)]; exact row 3 (Or.inl rfl) a ha, ha⟩⟩
  have hR69 : Row c' 69 (fun a => a) := fun a ha => ⟨by rw [f.i (by decide)]; exact row 69 (Or.inr rfl) a ha, ha⟩
  have hMT : MT c' 1 (fun a => a) (fixB (fun a => a) 1) := MT_fix (Mr_id (by decide) (by decide)) (by rw [f.2 0 (by decide)]; rfl) hR69 z70
  refine ⟨fSh 1 (fun a => a) (fixB (fun a => a) 1), fBd, fun _ => -1, fun _ _ => 0, 0, fun _ => 0, false, fSh 1 (fun a => a) (fixB (fun a => a) 1), InvS.fresh hG, InvB.fresh, ⟨Nat.zero_le _, fun i hi => absurd hi (Nat.not_lt_zero _)⟩, (fun e => by cases e), ⟨⟨hT, fun j hj => ?_, ⟨0, _, net0 f (r := 5) (by decide) (by decide) rfl (fun _ => rfl), fun e => by cases e⟩, by rw [f.i (by decide)]; rfl⟩, ⟨by rw [f.i (by decide)]; rfl, fun e => by cases e⟩, l0_at (fun j hj => by rw [f.i (by decide)]; exact lst 62 (Or.inl rfl) j hj), ⟨by rw [f.i (by decide)]; rfl, Nat.zero_le _, fun i hi => absurd hi (Nat.not_lt_zero _)⟩, by rw [f.i (by decide)]; rfl, by rw [f.i (by decide)]; rfl, fun e => by cases e⟩, ⟨⟨hMT, fun j hj => ⟨z71 j (by omega), Nat.zero_le _, fun p q hp => absurd hp (Nat.not_lt_zero _)⟩, h5, fun e => by cases e⟩, ⟨h6, fun e => by cases e⟩, l0_at (fun j hj => by rw [f.i (by decide)]; exact lst 75 (Or.inr rfl) j hj), ⟨by rw [f.2 20 (by decide)]; rfl, fun i hi => absurd hi (Nat.not_lt_zero _)⟩, ⟨fun k hk => ?_, fun k hk => ?_⟩, by rw [f.2 27 (by decide)]; rfl, fun e => by cases e⟩⟩
  · match j, hj with
    | 0, _ => exact net0 f (r := 7) (by decide) (by decide) rfl (fun _ => rfl)
    | 1, _ => exact net0 f (r := 9) (by decide) (by decide) rfl (fun _ => rfl)
    | 2, _ => exact net0 f (r := 11) (by decide) (by decide) rfl (fun _ => rfl)
    | j + 3, h => omega
  · rw [f.i (by decide)]
    match k, hk with
    | 0, _ => rfl
    | 1, _ => rfl
    | 2, _ => rfl
    | 3, _ => rfl
    | 4, _ => rfl
    | 5, _ => rfl
    | 6, _ => rfl
    | 7, _ => rfl
    | 8, _ => rfl
    | 9, _ => rfl
    | 10, _ => rfl
    | 11, _ => rfl
    | 12, _ => rfl
    | 13, _ => rfl
    | 14, _ => rfl
    | 15, _ => rfl
    | 16, _ => rfl
    | 17, _ => rfl
    | k + 18, h => omega
  · rw [f.i (by decide)]
    match k, hk with
    | 0, _ => rfl
    | 1, _ => rfl
    | 2, _ => rfl
    | 3, _ => rfl
    | k + 4, h => omega
end R0
