/-! one relation for both memories -/
/-- a sheet: atoms, converses, threes, sizes, labels, forbidden -/
abbrev shT : Type := Nat × (Nat → Nat) × Nat × szT × lbT × Bool × Nat × (Nat → Nat → Nat)
/-- a board -/
abbrev bdT : Type := Bool × Nat × (Nat → Nat → Nat) × List Nat × Nat
def InvS (s : shT) : Prop := Gd s.1 s.2.1 s.2.2.1 ∧ VV s.1 s.2.1 s.2.2.2.1 s.2.2.2.2.1 ∧ (s.2.2.2.2.2.1 = true → Vl s.1 s.2.1 s.2.2.2.2.2.2.1 s.2.2.2.2.2.2.2)
def InvB (s : shT) (b : bdT) : Prop := b.1 = true → Vl s.1 s.2.1 b.2.1 b.2.2.1 ∧ AqV s.2.2.1 s.1 b.2.1 b.2.2.1 b.2.2.2.1
abbrev ShC' (c : gm) (r : Nat) (s : shT) : Prop := ShC c r s.1 s.2.1 s.2.2.1 s.2.2.2.1 s.2.2.2.2.1 s.2.2.2.2.2.1 s.2.2.2.2.2.2.1 s.2.2.2.2.2.2.2
abbrev ShM' (c : gm) (s : shT) : Prop := ShM c s.1 s.2.1 s.2.2.1 s.2.2.2.1 s.2.2.2.2.1 s.2.2.2.2.2.1 s.2.2.2.2.2.2.1 s.2.2.2.2.2.2.2
abbrev BdC' (c : gm) (b : bdT) : Prop := BdC c b.1 b.2.1 b.2.2.1 b.2.2.2.1 b.2.2.2.2
abbrev BdM' (c : gm) (b : bdT) : Prop := BdM c b.1 b.2.1 b.2.2.1 b.2.2.2.1 b.2.2.2.2
def ClsP (c : gm) (s : shT) (b : bdT) (ls : lsT) (it : itT) (t : Nat) (tb : Nat → Nat) (kb : Bool) (s2 : shT) : Prop := ShC' c 1 s ∧ BdC' c b ∧ LsAt c 62 63 ls it ∧ TpC c 64 t tb ∧ c.1 60 0 = nI 0 ∧ c.1 0 2 = bI kb ∧ (kb = true → ShC' c 13 s2)
def RefP (c : gm) (s : shT) (b : bdT) (ls : lsT) (it : itT) (t : Nat) (tb : Nat → Nat) (kb : Bool) (s2 : shT) : Prop := ShM' c s ∧ BdM' c b ∧ LsAt c 75 76 ls it ∧ TpM c t tb ∧ WdM c ∧ c.1 68 27 = bI kb ∧ (kb = true → ShM' (kp c) s2)
def Rel (c : gm) : Prop := ∃ s b ls it t tb kb s2, InvS s ∧ InvB s b ∧ TpV t tb ∧ (kb = true → InvS s2) ∧ ClsP c s b ls it t tb kb s2 ∧ RefP c s b ls it t tb kb s2
section RL
variable {c c' : gm} {s s2 : shT} {b : bdT} {ls : lsT} {it : itT} {t : Nat} {tb : Nat → Nat} {kb : Bool} {l ks : List Nat}
theorem BdC.fr9 (h : BdC' c b) (hf : Fr l c c') (h1 : 52 ∉ l) (h2 : 53 ∉ l) (h3 : 54 ∉ l) (h4 : 55 ∉ l) : BdC' c' b := ⟨by rw [hf.i h1]; exact h.1, fun e => by
  obtain ⟨a1, a2, a3, a4, a5⟩ := h.2 e
  exact ⟨a1.fr hf h2 h3, by rw [hf.i h1]; exact a2, a3, fun i g hg => by rw [hf.i h4]; exact a4 i g hg, by rw [hf.i h1]; exact a5⟩⟩
theorem TpC.fr (h : TpC c 64 t tb) (hf : Fr l c c') (h1 : 64 ∉ l) (h2 : 65 ∉ l) : TpC c' 64 t tb := ⟨by rw [hf.i h1]; exact h.1, h.2.1, fun i hi => by rw [hf.i h2]; exact h.2.2 i hi⟩
/-- the reference writes: the class's memory stays -/
theorem ClsP.fr (h : ClsP c s b ls it t tb kb s2) (hf : Fr l c c') (hl : ∀ q, q ∈ l → 68 ≤ q) : ClsP c' s b ls it t tb kb s2 := by
  have n : ∀ q, q < 68 → q ∉ l := fun q hq z => by have := hl q z; omega
  obtain ⟨h1, h2, h3, h4, h5, h6, h7⟩ := h
  refine ⟨h1.fr hf (fun q hq => n q ?_), BdC.fr9 h2 hf (n _ (by decide)) (n _ (by decide)) (n _ (by decide)) (n _ (by decide)), h3.fr hf (n _ (by decide)) (n _ (by decide)), h4.fr hf (n _ (by decide)) (n _ (by decide)), by rw [hf.i (n _ (by decide))]; exact h5, by rw [hf.i (n _ (by decide))]; exact h6, fun e => (h7 e).fr hf (fun q hq => n q ?_)⟩
  · rw [rSh_mem] at hq; omega
  · rw [rSh_mem] at hq; omega
theorem ShM.fr (h : ShM' c s) (hf : Fr l c c') (h0 : 68 ∉ l) (h1 : 69 ∉ l) (h2 : 70 ∉ l) (h3 : 71 ∉ l) (h4 : 72 ∉ l) : ShM' c' s := h.ag ⟨hf.i h0 _, hf.i h0 _, fun a _ => hf.i h1 a, fun a _ => hf.i h2 a, fun a _ => hf.i h3 a, fun a _ => hf.i h4 a⟩
theorem BdM.fr (h : BdM' c b) (hf : Fr l c c') (h0 : 68 ∉ l) (h1 : 71 ∉ l) (h2 : 72 ∉ l) (h3 : 73 ∉ l) : BdM' c' b := ⟨by rw [hf.i h0]; exact h.1, fun e => by
  obtain ⟨a1, a2, a3, a4, a5⟩ := h.2 e
  exact ⟨a1.fr hf h1 h2, by rw [hf.i h0]; exact a2, a3, fun i g hg => by rw [hf.i h3]; exact a4 i g hg, by rw [hf.i h0]; exact a5⟩⟩
theorem kp_fr (hf : Fr l c c') (hl : ∀ q, q ∈ l → q < 68) : AgS (kp c) (kp c') := AgS.kf (l := l) (ks := []) ⟨hf.mono (fun q hq => List.mem_cons_of_mem _ hq), fun k _ => hf.i (fun z => by have := hl _ z; omega) k⟩ (by simp) (by simp) (fun q h1 h2 z => by
  rcases List.mem_cons.mp z with e | e
  · omega
  · have := hl q e; omega)
/-- the class writes: the reference's memory stays -/
theorem RefP.fr (h : RefP c s b ls it t tb kb s2) (hf : Fr l c c') (hl : ∀ q, q ∈ l → q < 68) : RefP c' s b ls it t tb kb s2 := by
  have n : ∀ q, 68 ≤ q → q ∉ l := fun q hq z => by have := hl q z; omega
  obtain ⟨h1, h2, h3, h4, h5, h6, h7⟩ := h
  exact ⟨ShM.fr h1 hf (n _ (by decide)) (n _ (by decide)) (n _ (by decide)) (n _ (by decide)) (n _ (by decide)), BdM.fr h2 hf (n _ (by decide)) (n _ (by decide)) (n _ (by decide)) (n _ (by decide)), h3.fr hf (n _ (by decide)) (n _ (by decide)), ⟨by rw [hf.i (n _ (by decide))]; exact h4.1, fun i hi => by rw [hf.i (n _ (by decide))]; exact h4.2 i hi⟩, ⟨fun k hk => by rw [hf.i (n _ (by decide))]; exact h5.1 k hk, fun k hk => by rw [hf.i (n _ (by decide))]; exact h5.2 k hk⟩, by rw [hf.i (n _ (by decide))]; exact h6, fun e => ShM.ag (h7 e) (kp_fr hf hl)⟩
/-- rows of the class that do not matter -/
theorem ClsP.idle (h : ClsP c s b ls it t tb kb s2) (hf : Fr l c c') (hl : ∀ q, q ∈ l → 25 ≤ q ∧ (q < 52 ∨ 56 ≤ q) ∧ q ≠ 60 ∧ q ≠ 62 ∧ q ≠ 63 ∧ q ≠ 64 ∧ q ≠ 65) : ClsP c' s b ls it t tb kb s2 := by
  obtain ⟨h1, h2, h3, h4, h5, h6, h7⟩ := h
  refine ⟨h1.fr hf (fun q hq z => ?_), BdC.fr9 h2 hf (fun z => ?_) (fun z => ?_) (fun z => ?_) (fun z => ?_), h3.fr hf (fun z => ?_) (fun z => ?_), h4.fr hf (fun z => ?_) (fun z => ?_), by rw [hf.i (fun z => by have := hl _ z; omega)]; exact h5, by rw [hf.i (fun z => by have := hl _ z; omega)]; exact h6, fun e => (h7 e).fr hf (fun q hq z => ?_)⟩
  · rw [rSh_mem] at hq; have := hl q z; omega
  all_goals try (have := hl _ z; omega)
  · rw [rSh_mem] at hq; have := hl q z; omega
/-- slots and rows of the reference that do not matter -/
theorem RefP.idle (h : RefP c s b ls it t tb kb s2) (hf : F8 l ks c c') (hl : ∀ q, q ∈ l → q = 74 ∨ q = 80) (hk : ∀ k, k ∈ ks → k ∈ [10, 11, 12, 13, 21, 22, 24, 25, 26]) : RefP c' s b ls it t tb kb s2 := by
  have n : ∀ q, 68 < q → q ≠ 74 → q ≠ 80 → q ∉ 68 :: l := fun q h1 h2 h3 z => by
    rcases List.mem_cons.mp z with e | e
    · omega
    · have := hl q e; omega
  have m : ∀ k, k ∉ [10, 11, 12, 13, 21, 22, 24, 25, 26] → k ∉ ks := fun k h1 h2 => h1 (hk k h2)
  obtain ⟨h1, h2, h3, h4, h5, h6, h7⟩ := h
  refine ⟨h1.ag ⟨hf.2 _ (m _ (by decide)), hf.2 _ (m _ (by decide)), fun a _ => hf.i (n _ (by decide) (by decide) (by decide)) a, fun a _ => hf.i (n _ (by decide) (by decide) (by decide)) a, fun a _ => hf.i (n _ (by decide) (by decide) (by decide)) a, fun a _ => hf.i (n _ (by decide) (by decide) (by decide)) a⟩, ⟨by rw [hf.2 6 (m _ (by decide))]; exact h2.1, fun e => ?_⟩, h3.fr hf.1 (n _ (by decide) (by decide) (by decide)) (n _ (by decide) (by decide) (by decide)), ⟨by rw [hf.2 20 (m _ (by decide))]; exact h4.1, fun i hi => by rw [hf.i (n _ (by decide) (by decide) (by decide))]; exact h4.2 i hi⟩, h5.f8 hf (n _ (by decide) (by decide) (by decide)) (n _ (by decide) (by decide) (by decide)), by rw [hf.2 27 (m _ (by decide))]; exact h6, fun e => (h7 e).ag (AgS.kf hf (m _ (by decide)) (m _ (by decide)) (fun q a1 a2 => n q (by omega) (by omega) (by omega)))⟩
  obtain ⟨a1, a2, a3, a4, a5⟩ := h2.2 e
  exact ⟨a1.fr hf.1 (n _ (by decide) (by decide) (by decide)) (n _ (by decide) (by decide) (by decide)), by rw [hf.2 8 (m _ (by decide))]; exact a2, a3, fun i g hg => by rw [hf.i (n _ (by decide) (by decide) (by decide))]; exact a4 i g hg, by rw [hf.2 9 (m _ (by decide))]; exact a5⟩
/-- the net in mind was worked on -/
theorem RefP.mind (h : RefP c s b ls it t tb kb s2) (hf : Fm c c') : RefP c' s b ls it t tb kb s2 := by
  obtain ⟨h1, h2, h3, h4, h5, h6, h7⟩ := h
  refine ⟨⟨h1.1.fm hf, fun j hj => (h1.2.1 j hj).fm hf (by omega), by rw [hf.1.2 5 (by decide)]; exact h1.2.2.1, fun e => (h1.2.2.2 e).fm hf (by decide)⟩, ⟨by rw [hf.1.2 6 (by decide)]; exact h2.1, fun e => ?_⟩, h3.fr hf.1.1 (by decide) (by decide), ⟨by rw [hf.1.2 20 (by decide)]; exact h4.1, fun i hi => by rw [hf.1.i (by decide)]; exact h4.2 i hi⟩, h5.f8 hf.1 (by decide) (by decide), by rw [hf.1.2 27 (by decide)]; exact h6, fun e => (h7 e).ag (AgS.kf hf.1 (by decide) (by decide) (fun q a1 a2 z => by
    simp only [List.mem_cons, List.not_mem_nil, or_false] at z
    omega))⟩
  obtain ⟨a1, a2, a3, a4, a5⟩ := h2.2 e
  exact ⟨a1.fm hf (by decide), by rw [hf.1.2 8 (by decide)]; exact a2, a3, fun i g hg => by rw [hf.1.i (by decide)]; exact a4 i g hg, by rw [hf.1.2 9 (by decide)]; exact a5⟩
end RL
