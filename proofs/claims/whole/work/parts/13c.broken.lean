/-! the reference's broken() -/
def fstU (g : Nat → Option Nat) : Nat → Option Nat
  | 0 => none
  | k + 1 => (fstU g k).or (g k)
theorem cs_zero {f : Nat → Nat} : ∀ k, cs f k = 0 ↔ ∀ i, i < k → f i = 0
  | 0 => ⟨fun _ i h => absurd h (by omega), fun _ => rfl⟩
  | k + 1 => by
    rw [cs, Nat.add_eq_zero_iff, cs_zero k]
    exact ⟨fun h i hi => by rcases Nat.lt_succ_iff_lt_or_eq.mp hi with h1 | h1; exact h.1 i h1; rw [h1]; exact h.2, fun h => ⟨fun i hi => h i (by omega), h k (by omega)⟩⟩
theorem fstU_none {g : Nat → Option Nat} : ∀ k, fstU g k = none ↔ ∀ i, i < k → g i = none
  | 0 => ⟨fun _ i h => absurd h (by omega), fun _ => rfl⟩
  | k + 1 => by
    rw [fstU, Option.or_eq_none_iff, fstU_none k]
    exact ⟨fun h i hi => by rcases Nat.lt_succ_iff_lt_or_eq.mp hi with h1 | h1; exact h.1 i h1; rw [h1]; exact h.2, fun h => ⟨fun i hi => h i (by omega), h k (by omega)⟩⟩
theorem fstU_ffrom {g : Nat → Option Nat} {n : Nat} : ∀ i, i ≤ n → (fstU g i).or (ffrom n g i) = ffrom n g 0
  | 0, _ => rfl
  | i + 1, h => by rw [fstU, Option.or_assoc, ← ffrom_step g (by omega), fstU_ffrom i (by omega)]
theorem ffrom_fstU (g : Nat → Option Nat) (n : Nat) : ffrom n g 0 = fstU g n := by
  rw [← fstU_ffrom (g := g) (n := n) n (Nat.le_refl _), ffrom_end, Option.or_none]
section BK
variable (N n : Nat)
def bkZ (a b : Nat) (z : Nat) : Nat := cs (fun z => b1 (unb N n a b z)) z
def bkB (a : Nat) (b : Nat) : Nat := cs (fun b => bkZ N n a b n) b
def bkA (a : Nat) : Nat := cs (fun a => bkB N n a n) a
def bfZ (a b : Nat) (z : Nat) : Option Nat := fstU (brkZ N n a b) z
def bfB (a : Nat) (b : Nat) : Option Nat := fstU (fun b => bfZ N n a b n) b
def bfA (a : Nat) : Option Nat := fstU (fun a => bfB N n a n) a
def tkB (a : Nat) (b : Nat) : Nat := cs (fun b => b1 (thnP N n a b)) b
def tkA (a : Nat) : Nat := cs (fun a => tkB N n a n) a
def tfB (a : Nat) (b : Nat) : Option Nat := fstU (thnZ N n a) b
def tfA (a : Nat) : Option Nat := fstU (fun a => tfB N n a n) a
theorem bkZ_0 (a b z : Nat) : bkZ N n a b z = 0 ↔ bfZ N n a b z = none := by
  unfold bkZ bfZ
  rw [cs_zero, fstU_none]
  refine ⟨fun h i hi => ?_, fun h i hi => ?_⟩
  · have := h i hi
    unfold brkZ
    cases hu : unb N n a b i with
    | false => rfl
    | true => rw [hu] at this; exact absurd this (by decide)
  · have := h i hi
    unfold brkZ at this
    cases hu : unb N n a b i with
    | false => rfl
    | true => rw [hu] at this; exact absurd this (by simp)
theorem bkB_0 (a b : Nat) : bkB N n a b = 0 ↔ bfB N n a b = none := by
  unfold bkB bfB
  rw [cs_zero, fstU_none]
  exact ⟨fun h i hi => (bkZ_0 N n a i n).mp (h i hi), fun h i hi => (bkZ_0 N n a i n).mpr (h i hi)⟩
theorem bkA_0 (a : Nat) : bkA N n a = 0 ↔ bfA N n a = none := by
  unfold bkA bfA
  rw [cs_zero, fstU_none]
  exact ⟨fun h i hi => (bkB_0 N n i n).mp (h i hi), fun h i hi => (bkB_0 N n i n).mpr (h i hi)⟩
theorem tkB_0 (a b : Nat) : tkB N n a b = 0 ↔ tfB N n a b = none := by
  unfold tkB tfB
  rw [cs_zero, fstU_none]
  refine ⟨fun h i hi => ?_, fun h i hi => ?_⟩
  · have := h i hi
    unfold thnZ
    cases hu : thnP N n a i with
    | false => rfl
    | true => rw [hu] at this; exact absurd this (by decide)
  · have := h i hi
    unfold thnZ at this
    cases hu : thnP N n a i with
    | false => rfl
    | true => rw [hu] at this; exact absurd this (by simp)
theorem tkA_0 (a : Nat) : tkA N n a = 0 ↔ tfA N n a = none := by
  unfold tkA tfA
  rw [cs_zero, fstU_none]
  exact ⟨fun h i hi => (tkB_0 N n i n).mp (h i hi), fun h i hi => (tkB_0 N n i n).mpr (h i hi)⟩
theorem bkZ_le (a b z : Nat) : bkZ N n a b z ≤ z * 1 := cs_le (fun _ => b1_le _) z
theorem bkB_le (a b : Nat) : bkB N n a b ≤ b * (n * 1) := cs_le (fun i => bkZ_le N n a i n) b
theorem bkA_le (a : Nat) : bkA N n a ≤ a * (n * (n * 1)) := cs_le (fun i => bkB_le N n i n) a
theorem tkB_le (a b : Nat) : tkB N n a b ≤ b * 1 := cs_le (fun _ => b1_le _) b
theorem tkA_le (a : Nat) : tkA N n a ≤ a * (n * 1) := cs_le (fun i => tkB_le N n i n) a
theorem bfA_F : bfA N n n = brkF N n := by
  unfold bfA brkF
  rw [ffrom_fstU]
  congr 1
  funext a
  unfold bfB
  rw [ffrom_fstU]
  congr 1
  funext b
  unfold bfZ
  rw [ffrom_fstU]
theorem tfA_F : tfA N n n = thnF N n := by
  unfold tfA thnF
  rw [ffrom_fstU]
  congr 1
  funext a
  unfold tfB
  rw [ffrom_fstU]
end BK
section AP
variable {E : gk_E} {dd : Nat} {c : gm} {n N : Nat} {mir : Nat → Nat}
theorem n_broken (hM : MT c n mir N) {q : Int32} {K : Int32 → gk_H → Prop} (k : K (sp_br n N q) (Hm c)) : RnI E mX12_broken (dd + 2, 0, 0) [.ref 68, .int q] (Hm c) K := by
  have h4 := hM.n4
  refine vX12_broken_0 (n_isFrom (lo := 0) (hi := 3) (by decide) (by decide) (rngN (by decide) (fun j hj hq h => ?_) (fun h => ?_)))
  · subst hq
    rw [sp_br, if_pos h, w_nI (by omega)] at k
    refine down0 (P := fun a => pX12_broken_29 E (dd + 1) 68 (nI j) (nI (bkA N n a)) (orN (bfA N n a)) (nI (tkA N n a)) (orN (tfA N n a)) (nI a) (Hm c) K) n ?_ ?_
    · refine vX12_broken_29 (ldI l68 rfl ?_)
      rw [hM.hn]
      refine bLe (fun _ => bN0 (fun e => bNe (fun e1 => bNe (fun e2 => ?_) (fun e2 => ?_)) (fun e1 => ?_)) (fun e => ?_)) (fun h => absurd h (by omega))
      · rw [if_neg e, if_neg e1, if_neg e2, ← tfA_F] at k; exact k
      · rw [if_neg e, if_neg e1, if_pos e2] at k; exact k
      · rw [if_neg e, if_pos e1, ← bfA_F] at k; exact k
      · rw [if_pos e] at k; exact k
    · intro a ha ih
      refine vX12_broken_29 (ldI l68 rfl ?_)
      rw [hM.hn]
      refine bLe (fun h => absurd h (by omega)) (fun _ => ?_)
      have la := bkA_le N n a
      have ta := tkA_le N n a
      have m1 : a * (n * (n * 1)) ≤ 4 * (4 * (4 * 1)) := Nat.mul_le_mul (by omega) (Nat.mul_le_mul h4 (Nat.mul_le_mul h4 (Nat.le_refl _)))
      have m2 : a * (n * 1) ≤ 4 * (4 * 1) := Nat.mul_le_mul (by omega) (Nat.mul_le_mul h4 (Nat.le_refl _))
      suffices hP : (fun b => pX12_broken_41 E (dd + 1) 68 (nI j) (nI (bkA N n a + bkB N n a b)) (orN ((bfA N n a).or (bfB N n a b))) (nI (tkA N n a + tkB N n a b)) (orN ((tfA N n a).or (tfB N n a b))) (nI a) (nI b) (Hm c) K) 0 by
        simp only [show bkB N n a 0 = 0 from rfl, show bfB N n a 0 = none from rfl, show tkB N n a 0 = 0 from rfl, show tfB N n a 0 = none from rfl, Nat.add_zero, Option.or_none] at hP
        exact hP
      refine down0 (P := (fun b => pX12_broken_41 E (dd + 1) 68 (nI j) (nI (bkA N n a + bkB N n a b)) (orN ((bfA N n a).or (bfB N n a b))) (nI (tkA N n a + tkB N n a b)) (orN ((tfA N n a).or (tfB N n a b))) (nI a) (nI b) (Hm c) K)) n ?_ ?_
      · refine vX12_broken_41 (ldI l68 rfl ?_)
        simp only [hM.hn, nI_add]
        exact bLe (fun _ => ih) (fun h => absurd h (by omega))
      · intro b hb ih2
        refine vX12_broken_41 (ldI l68 rfl ?_)
        have pa := pow4 (a := a) (by omega)
        have pb := pow4 (a := b) (by omega)
        have hl := prd_lt N n (2 ^ a) (2 ^ b)
        have lb := bkB_le N n a b
        have tb := tkB_le N n a b
        have m3 : b * (n * 1) ≤ 4 * (4 * 1) := Nat.mul_le_mul (by omega) (Nat.mul_le_mul h4 (Nat.le_refl _))
        have inner : ∀ (T : Nat) (F : Int32), (pX12_broken_41 E (dd + 1) 68 (nI j) (nI (bkA N n a + bkB N n a (b + 1))) (orN ((bfA N n a).or (bfB N n a (b + 1)))) (nI T) F (nI a) (nI (b + 1)) (Hm c) K) → pX12_broken_95 E (dd + 1) 68 (nI j) (nI (bkA N n a + bkB N n a b)) (orN ((bfA N n a).or (bfB N n a b))) (nI T) F (nI a) (nI b) (nI (prd N n (2 ^ a) (2 ^ b))) (nI 0) (Hm c) K := by
          intro T F hfin
          refine down0 (P := fun z => pX12_broken_95 E (dd + 1) 68 (nI j) (nI (bkA N n a + bkB N n a b + bkZ N n a b z)) (orN (((bfA N n a).or (bfB N n a b)).or (bfZ N n a b z))) (nI T) F (nI a) (nI b) (nI (prd N n (2 ^ a) (2 ^ b))) (nI z) (Hm c) K) n ?_ ?_ |> fun r => by
            have e0 : bkZ N n a b 0 = 0 := rfl
            have e1 : bfZ N n a b 0 = none := rfl
            simp only [e0, e1, Nat.add_zero, Option.or_none] at r
            exact r
          · refine vX12_broken_95 (ldI l68 rfl ?_)
            simp only [hM.hn, nI_add]
            rw [Nat.add_assoc, Option.or_assoc]
            exact bLe (fun _ => hfin) (fun h => absurd h (by omega))
          · intro z hz ih3
            refine vX12_broken_95 (ldI l68 rfl ?_)
            have pz := pow4 (a := z) (by omega)
            have q2 := prd_lt N n (2 ^ b) (2 ^ z)
            have q3 := prd_lt N n (prd N n (2 ^ a) (2 ^ b)) (2 ^ z)
            have q4 := prd_lt N n (2 ^ a) (prd N n (2 ^ b) (2 ^ z))
            have lz := bkZ_le N n a b z
            simp only [hM.hn, nI_add, pk_mul]
            rw [sh1 (by omega), sh1 (by omega), sh1 (by omega)]
            refine bLe (fun h => absurd h (by omega)) (fun _ => ⟨obj l68, n_composed hM (by omega) (by omega) ⟨obj l68, n_composed hM (by omega) (by omega) ⟨obj l68, n_composed hM (by omega) (by omega) (bEq (fun e => ?_) (fun e => ?_))⟩⟩⟩)
            · have eu : unb N n a b z = false := by simp only [unb, e, bne_self_eq_false]
              have e1 : bkZ N n a b (z + 1) = bkZ N n a b z := by rw [bkZ, cs, eu]; rfl
              have e2 : bfZ N n a b (z + 1) = bfZ N n a b z := by rw [bfZ, fstU, brkZ, eu]; exact Option.or_none
              rw [e1, e2] at ih3
              exact ih3
            · have eu : unb N n a b z = true := by simp only [unb, bne_iff_ne.mpr e]
              have e1 : bkZ N n a b (z + 1) = bkZ N n a b z + 1 := by rw [bkZ, cs, eu]; rfl
              have e2 : bfZ N n a b (z + 1) = (bfZ N n a b z).or (some (100 * a + 10 * b + z)) := by rw [bfZ, fstU, brkZ, eu]; rfl
              rw [e1, e2, ← Nat.add_assoc] at ih3
              refine bN0 (fun g => ?_) (fun g => ?_)
              · have hs : ((bfA N n a).or (bfB N n a b)).or (bfZ N n a b z) ≠ none := by
                  intro hn
                  rw [Option.or_eq_none_iff, Option.or_eq_none_iff, ← bkA_0, ← bkB_0, ← bkZ_0] at hn
                  omega
                rw [← Option.or_assoc] at ih3
                obtain ⟨v, hv⟩ := Option.ne_none_iff_exists'.mp hs
                rw [hv] at ih3 ⊢
                exact ih3
              · have h1 : bfA N n a = none := (bkA_0 N n a).mp (by omega)
                have h2 : bfB N n a b = none := (bkB_0 N n a b).mp (by omega)
                have h3 : bfZ N n a b z = none := (bkZ_0 N n a b z).mp (by omega)
                rw [h1, h2, h3] at ih3
                exact ih3
        simp only [hM.hn, nI_add, pk_mul]
        rw [sh1 (by omega), sh1 (by omega)]
        refine bLe (fun h => absurd h (by omega)) (fun _ => ⟨obj l68, n_composed hM (by omega) (by omega) (bN0 (fun e => ?_) (fun e => bN0 (fun g => ?_) (fun g => ?_)))⟩)
        · have et : thnP N n a b = false := beq_false_of_ne e
          have e1 : tkB N n a (b + 1) = tkB N n a b := by rw [tkB, cs, et]; rfl
          have e2 : tfB N n a (b + 1) = tfB N n a b := by rw [tfB, fstU, thnZ, et]; exact Option.or_none
          rw [e1, e2] at ih2
          exact inner _ _ ih2
        · have et : thnP N n a b = true := by rw [thnP, e]; rfl
          have e1 : tkB N n a (b + 1) = tkB N n a b + 1 := by rw [tkB, cs, et]; rfl
          have e2 : tfB N n a (b + 1) = (tfB N n a b).or (some (10 * a + b)) := by rw [tfB, fstU, thnZ, et]; rfl
          rw [e1, e2, ← Nat.add_assoc, ← Option.or_assoc] at ih2
          have hs : (tfA N n a).or (tfB N n a b) ≠ none := by
            intro hn
            rw [Option.or_eq_none_iff, ← tkA_0, ← tkB_0] at hn
            omega
          obtain ⟨v, hv⟩ := Option.ne_none_iff_exists'.mp hs
          rw [hv] at ih2 ⊢
          exact inner _ _ ih2
        · have et : thnP N n a b = true := by rw [thnP, e]; rfl
          have e1 : tkB N n a (b + 1) = tkB N n a b + 1 := by rw [tkB, cs, et]; rfl
          have e2 : tfB N n a (b + 1) = (tfB N n a b).or (some (10 * a + b)) := by rw [tfB, fstU, thnZ, et]; rfl
          have h1 : tfA N n a = none := (tkA_0 N n a).mp (by omega)
          have h2 : tfB N n a b = none := (tkB_0 N n a b).mp (by omega)
          rw [e1, e2, ← Nat.add_assoc, h1, h2] at ih2
          exact inner _ _ ih2
  · rw [sp_br, if_neg (by rw [h]; decide)] at k; exact k
end AP
