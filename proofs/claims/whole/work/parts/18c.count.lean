/-! count -/
def lsC (ls : lsT) : Nat → Nat
  | 0 => 0
  | i + 1 => lsC ls i + (if ls i = -1 then 0 else 1)
def sp_ct (n : Nat) (sz : szT) (t : Nat) (ls : lsT) (fb : Bool) (fs : Nat) (x : Int32) : Int32 := if x = nI 0 then nI n else if x = nI 1 then nI (sz 0) + nI (sz 1) + nI (sz 2) else if x = nI 2 then nI t else if x = nI 3 then nI (lsC ls 3) else if x = nI 4 then (if fb = true then nI fs else nI 0) else -1
section CT
variable {E : gk_E} {dd : Nat} {c : gm} {n N t : Nat} {mir : Nat → Nat} {sz : szT} {lb : lbT} {fb : Bool} {fs : Nat} {fl : Nat → Nat → Nat} {ls : lsT} {it : itT} {tb : Nat → Nat}
theorem c_count (hT : Tab c 2 n mir N) (hN : NN c sz lb) (hL : LsAt c 62 63 ls it) (hP : TpC c 64 t tb) (hb : c.1 1 3 = bI fb) (hbar : fb = true → NetAt c 5 fs fl) {x : Int32} {K : Int32 → gk_H → Prop} (k : K (sp_ct n sz t ls fb fs x) (Hm c)) : RnI E mX11_count (dd + 1, 0, 0) [.ref 0, .int x] (Hm c) K := by
  refine vX11_count_0 ⟨⟨fun e => ?_, fun e => ?_, fun e => ?_, fun e => ⟨obj l0, vX11_listsPresent_0 ?_⟩, fun e => ldR l0 rfl (ldI l1 rfl ?_)⟩, fun e => ?_⟩
  · subst e
    refine ldR l0 rfl (ldR l1 rfl (ldI l2 rfl ?_))
    rw [hT.1]; exact k
  · subst e
    refine ldR l0 rfl (ldR l1 rfl (alR (t := 0) l4 (by decide) (by decide) (nets_at 0 (by decide)) (ldI l7 rfl (ldR l0 rfl (ldR l1 rfl (alR (t := 0) l4 (by decide) (by decide) (nets_at 1 (by decide)) (ldI l9 rfl (ldR l0 rfl (ldR l1 rfl (alR (t := 0) l4 (by decide) (by decide) (nets_at 2 (by decide)) (ldI l11 rfl ?_)))))))))))
    rw [(hN 0 (by decide)).1, (hN 1 (by decide)).1, (hN 2 (by decide)).1]; exact k
  · subst e
    refine ldR l0 rfl (ldI l64 rfl ?_)
    rw [hP.1]; exact k
  · subst e
    refine down (P := fun i => pX11_listsPresent_4 E dd 0 (nI (lsC ls i)) (nI i) (Hm c) K) 3 ?_ ?_ 0 (Nat.zero_le _)
    · exact vX11_listsPresent_4 (bLe (fun _ => k) (fun z => absurd z (by omega)))
    · intro i hi ih
      refine vX11_listsPresent_4 (bLe (fun z => absurd z (by omega)) (fun _ => ldR l0 rfl (alI l62 hi (by decide) ?_)))
      rw [(hL.1 i hi).1]
      simp only [nI_add]
      rw [lsC] at ih
      rcases (hL.1 i hi).2 with h | ⟨q, hq, h⟩
      · rw [if_pos h] at ih
        rw [h]
        exact ⟨fun _ => ih, fun z => absurd (by decide) z⟩
      · rw [if_neg (by rw [h]; exact nI_ne1 (by omega))] at ih
        rw [h]
        exact ⟨fun z => absurd z (nI_nn (by omega)), fun _ => ih⟩
  · subst e
    rw [hb]
    refine bB0 (fun e => ?_) (fun e => ldR l0 rfl (ldR l1 rfl (ldI l5 rfl ?_)))
    · subst e; exact k
    · rw [(hbar e).1]; subst e; exact k
  · rw [sp_ct, if_neg (e 0 (by decide)), if_neg (e 1 (by decide)), if_neg (e 2 (by decide)), if_neg (e 3 (by decide)), if_neg (e 4 (by decide))] at k
    exact k
theorem n_count (hT : MT c n mir N) (hN : MN c sz lb) (hL : LsAt c 75 76 ls it) (hP : TpM c t tb) (hb : c.1 68 5 = bI fb) (hbar : fb = true → MNet c 3 fs fl) {x : Int32} {K : Int32 → gk_H → Prop} (k : K (sp_ct n sz t ls fb fs x) (Hm c)) : RnI E mX12_count (dd, 0, 0) [.ref 68, .int x] (Hm c) K := by
  refine vX12_count_0 ⟨⟨fun e => ?_, fun e => ?_, fun e => ?_, fun e => ?_, fun e => ldI l68 rfl ?_⟩, fun e => ?_⟩
  · subst e
    refine ldI l68 rfl ?_
    obtain ⟨B, hM, hA⟩ := hT
    rw [hM.1]; exact k
  · subst e
    refine ldR l68 rfl (alI l71 (by decide) (by decide) (ldR l68 rfl (alI l71 (by decide) (by decide) (ldR l68 rfl (alI l71 (by decide) (by decide) ?_)))))
    rw [(hN 0 (by decide)).1, (hN 1 (by decide)).1, (hN 2 (by decide)).1]; exact k
  · subst e
    refine ldI l68 rfl ?_
    rw [hP.1]; exact k
  · subst e
    refine down (P := fun i => pX12_count_71 E dd 68 (nI 3) (nI (lsC ls i)) (nI i) (Hm c) K) 3 ?_ ?_ 0 (Nat.zero_le _)
    · exact vX12_count_71 (bLe (fun _ => k) (fun z => absurd z (by omega)))
    · intro i hi ih
      refine vX12_count_71 (bLe (fun z => absurd z (by omega)) (fun _ => ldR l68 rfl (alI l75 hi (by decide) ?_)))
      rw [(hL.1 i hi).1]
      simp only [nI_add]
      rw [lsC] at ih
      exact ⟨fun z => by rw [if_neg z] at ih; exact ih, fun z => by rw [if_pos z] at ih; exact ih⟩
  · subst e
    rw [hb]
    refine bB0 (fun e => ?_) (fun e => ldR l68 rfl (alI l71 (by decide) (by decide) ?_))
    · subst e; exact k
    · rw [(hbar e).1]; subst e; exact k
  · rw [sp_ct, if_neg (e 0 (by decide)), if_neg (e 1 (by decide)), if_neg (e 2 (by decide)), if_neg (e 3 (by decide)), if_neg (e 4 (by decide))] at k
    exact k
end CT
