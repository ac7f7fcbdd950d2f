/-! THE ARMS would AND settle: what goes ahead. -/
section
variable {M N : em_M}
theorem set_prep {t : Int} (h : Rel M) (t0 : 0 ≤ t) (t1 : t ≤ 100000) : ∃ B v, (∀ f : Int × em_M → Option (Int × em_M), (f_Kinship_refresh (M 0 11) t M).bind (fun r2 => (f_Settlement_begin r2.2).bind (fun r3 => (f_Register_livingOn t r3.2).bind f)) = f (v, B)) ∧ (kTab B t ∧ B 25 2 = t) ∧ mk v (fun x => (x < M 6 0 ∧ M 10 x ≤ t) ∧ ¬ (¬ M 11 x = -1 ∧ M 11 x ≤ t)) ∧ (∀ x, 0 ≤ x → x < 30 → B 135 x = M 12 x) ∧ (B 126 5 = M 136 2 ∧ B 126 6 = M 136 3) ∧ ∀ c j, ¬ ((c = 25 ∧ 2 ≤ j ∧ j ≤ 4) ∨ (27 ≤ c ∧ c ≤ 50) ∨ c = 135 ∨ (c = 126 ∧ (j = 5 ∨ j = 6))) → B c j = M c j := by
  obtain ⟨hT, hP, hD, hM, hO, hL, hW, hK, hH, hS, hN, hF⟩ := id h
  have hw := hW.1
  obtain ⟨A, a1, a2, a3, a4⟩ := f_refresh hP hM hW hK t0 t1
  have e := q_Settlement_begin A
  generalize hB : xup (xup (xcpy A 12 0 135 0 30) 126 5 ((xcpy A 12 0 135 0 30) 136 2)) 126 6 ((xup (xcpy A 12 0 135 0 30) 126 5 ((xcpy A 12 0 135 0 30) 136 2)) 136 3) = B at e
  have fB : ∀ c j, ¬ (c = 135 ∨ (c = 126 ∧ (j = 5 ∨ j = 6))) → B c j = A c j := fun c j hc => by rw [← hB, xup_ne (by omega), xup_ne (by omega), rd3 (by omega)]
  have v1 : ∀ x, 0 ≤ x → x < 30 → B 135 x = M 12 x := fun x x0 x1 => by
    rw [← hB, xup_ne (by omega), xup_ne (by omega), rd4 (by omega) (by omega), a4 12 _ (by omega), show 0 + (x - 0) = x by omega]
  have v2 : B 126 5 = M 136 2 ∧ B 126 6 = M 136 3 := by
    rw [← hB, xup_ne (by omega), xup_eq, xup_eq, xup_ne (by omega), rd3 (by omega), rd3 (by omega), a4 136 2 (by omega), a4 136 3 (by omega)]
    exact ⟨rfl, rfl⟩
  have gB : ∀ c j, ¬ ((c = 25 ∧ 2 ≤ j ∧ j ≤ 4) ∨ (27 ≤ c ∧ c ≤ 50) ∨ c = 135 ∨ (c = 126 ∧ (j = 5 ∨ j = 6))) → B c j = M c j := fun c j hc => by rw [fB c j (by omega), a4 c j (by omega)]
  have hn := hP.2.2.1
  obtain ⟨v, l1, l2⟩ := f_livingOn (M := B) (by rw [gB _ _ (by omega)]; exact hn) t
  refine ⟨B, v, fun f => ?_, ⟨kTab_fr a3 ?_ ?_ (fun c j hc => fB c j (by omega)), ?_⟩, l2.cong (fun x _ _ => ?_), v1, v2, gB⟩
  · rw [a1]
    simp only [Option.bind_some]
    rw [e]
    simp only [Option.bind_some]
    rw [l1]
    rfl
  · rw [a4 0 11 (by omega)]; exact hw
  · rw [a4 0 11 (by omega), a4 (M 0 11) 0 (by omega)]; exact hW.2.2.2.1.2.2
  · rw [fB 25 2 (by omega)]; exact a2
  · rw [gB 6 0 (by omega), gB 10 x (by omega), gB 11 x (by omega)]
/-- what the class may have changed of B when the reference begins -/
def zF (B Z : em_M) : Prop := ∀ c j, ¬ ((126 ≤ c ∧ c ≤ 135) ∨ (174 ≤ c ∧ c ≤ 365)) → Z c j = B c j
theorem zF.rf (B : em_M) : zF B B := fun _ _ _ => rfl
/-- the static relation for the reference's state N on the day t -/
theorem sRel_of {B : em_M} {t L : Int} (h : Rel M) (t0 : 0 ≤ t) (t1 : t ≤ 100000) (hk : kTab B t) (gB : ∀ c j, ¬ ((c = 25 ∧ 2 ≤ j ∧ j ≤ 4) ∨ (27 ≤ c ∧ c ≤ 50) ∨ c = 135 ∨ (c = 126 ∧ (j = 5 ∨ j = 6))) → B c j = M c j) (hst : ∀ c j, sStat c j → N c j = B c j) (hL : mk L (fun x => x < M 6 0 ∧ lvs N t x)) : sRel B N t L := by
  obtain ⟨hT, hP, hD, hM, hO, hL', hW, hK, hH, hS, hN, hF⟩ := id h
  refine ⟨⟨RP_fr hP (fun c j hc => gB c j (by omega)), RM_fr hM (fun c j hc => gB c j (by omega)), RO_fr hO (fun c j hc => gB c j (by omega)), RL_fr hL' (fun c j hc => gB c j (by omega)), RW_fr hW (fun c j hc => gB c j (by omega)), hk⟩, hst, ?_, t0, t1⟩
  rw [gB 6 0 (by omega)]
  exact hL
end
