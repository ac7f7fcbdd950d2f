/-! WHAT A RUN COMES TO: a judgement over the functions of the equations; truths as numbers; sets of persons as numbers. -/
def nOk (o : Option (Int × em_M)) (P : Int → em_M → Prop) : Prop := ∃ v M, o = some (v, M) ∧ P v M
theorem nOk_some {v : Int} {M : em_M} {P : Int → em_M → Prop} : nOk (some (v, M)) P = P v M := propext ⟨fun ⟨_, _, h, k⟩ => (by cases h; exact k), fun k => ⟨v, M, rfl, k⟩⟩
theorem nOk_none {P : Int → em_M → Prop} : nOk none P = False := propext ⟨fun ⟨_, _, h, _⟩ => (by cases h), fun h => h.elim⟩
theorem nOk_bind {o : Option (Int × em_M)} {f : Int × em_M → Option (Int × em_M)} {P : Int → em_M → Prop} : nOk (o.bind f) P = nOk o (fun v M => nOk (f (v, M)) P) := propext (by
  constructor
  · intro h
    cases o with
    | none => obtain ⟨_, _, q, _⟩ := h; cases q
    | some r => exact ⟨r.1, r.2, rfl, h⟩
  · rintro ⟨v, M, rfl, h⟩
    exact h)
theorem nOk_cd {c : Prop} [Decidable c] {a b : Option (Int × em_M)} {P : Int → em_M → Prop} : nOk (bif decide c then a else b) P = ((c → nOk a P) ∧ (¬ c → nOk b P)) := propext (by
  by_cases h : c
  · rw [decide_eq_true h]
    exact ⟨fun z => ⟨fun _ => z, fun q => absurd h q⟩, fun z => z.1 h⟩
  · rw [decide_eq_false h]
    exact ⟨fun z => ⟨fun q => absurd q h, fun _ => z⟩, fun z => z.2 h⟩)
theorem nOk_if {c : Prop} [Decidable c] {a b : Option (Int × em_M)} {P : Int → em_M → Prop} : nOk (if c then a else b) P = ((c → nOk a P) ∧ (¬ c → nOk b P)) := by
  rw [← nOk_cd, em_cd]
theorem nOk_b {c : Bool} {a b : Option (Int × em_M)} {P : Int → em_M → Prop} : nOk (bif c then a else b) P = ((c = true → nOk a P) ∧ (c = false → nOk b P)) := propext (by
  cases c with
  | true => exact ⟨fun z => ⟨fun _ => z, fun q => (by cases q)⟩, fun z => z.1 rfl⟩
  | false => exact ⟨fun z => ⟨fun q => (by cases q), fun _ => z⟩, fun z => z.2 rfl⟩)
theorem nOk.mono {o : Option (Int × em_M)} {P Q : Int → em_M → Prop} (h : nOk o P) (k : ∀ v M, P v M → Q v M) : nOk o Q := by
  obtain ⟨v, M, e, p⟩ := h
  exact ⟨v, M, e, k v M p⟩
theorem nOk.eq {o : Option (Int × em_M)} {v : Int} {M : em_M} {P : Int → em_M → Prop} (e : o = some (v, M)) (p : P v M) : nOk o P := ⟨v, M, e, p⟩
/-- a truth as a number -/
def b2 (c : Prop) [Decidable c] : Int := if c then 1 else 0
theorem b2_z {c : Prop} [Decidable c] : (b2 c = 0) = ¬ c := by
  apply propext
  unfold b2
  by_cases h : c <;> simp [h]
theorem b2_1 {c : Prop} [Decidable c] : (b2 c = 1) = c := by
  apply propext
  unfold b2
  by_cases h : c <;> simp [h]
theorem b2_t {c : Prop} [Decidable c] (h : c) : b2 c = 1 := if_pos h
theorem b2_f {c : Prop} [Decidable c] (h : ¬ c) : b2 c = 0 := if_neg h
theorem b2_or {c : Prop} [Decidable c] : (b2 c = 0 ∨ b2 c = 1) = True := by
  rw [b2_z, b2_1]
  exact eq_true (by by_cases h : c; exact Or.inr h; exact Or.inl h)
theorem b2_cong {c d : Prop} [Decidable c] [Decidable d] (h : c ↔ d) : b2 c = b2 d := by
  unfold b2
  by_cases q : c
  · rw [if_pos q, if_pos (h.mp q)]
  · rw [if_neg q, if_neg (fun z => q (h.mpr z))]
theorem nn {p : Prop} [Decidable p] : (¬ ¬ p) = p := propext ⟨fun h => Decidable.byContradiction h, fun h q => q h⟩
theorem xup_eq (M : em_M) (a i v : Int) : xup M a i v a i = v := if_pos ⟨rfl, rfl⟩
theorem xup_ne {M : em_M} {a i v b j : Int} (h : ¬ (b = a ∧ j = i)) : xup M a i v b j = M b j := if_neg h
/-! sets -/
def tb (v x : Int) : Bool := bt (Int32.ofInt v) x.toNat
theorem tb_and (a b x : Int) : tb (x_and a b) x = (tb a x && tb b x) := by
  unfold tb x_and
  rw [Int32.ofInt_toInt, b_and]
theorem tb_or (a b x : Int) : tb (x_or a b) x = (tb a x || tb b x) := by
  unfold tb x_or
  rw [Int32.ofInt_toInt, b_or]
theorem tb_xor (a b x : Int) : tb (x_xor a b) x = (tb a x ^^ tb b x) := by
  unfold tb x_xor
  rw [Int32.ofInt_toInt, b_xor]
theorem tb_m1 {x : Int} (h : 0 ≤ x) (h2 : x < 32) : tb (-1) x = true := b_m1 x.toNat (by omega)
theorem tb_0 (x : Int) : tb 0 x = false := b_0 x.toNat
theorem tb_not {a x : Int} (h : 0 ≤ x) (h2 : x < 32) : tb (x_xor a (-1)) x = !tb a x := by
  rw [tb_xor, tb_m1 h h2, Bool.xor_true]
theorem tb_1 : ∀ i, i < 32 → bt 1 i = decide (i = 0) := by decide +kernel
theorem tb_shl1 {p x : Int} (hp : 0 ≤ p) (hp2 : p < 32) (h : 0 ≤ x) (h2 : x < 32) : tb (x_shl 1 p) x = decide (x = p) := by
  unfold tb x_shl
  rw [Int32.ofInt_toInt]
  have e : Int32.ofInt p = nI p.toNat := by
    show _ = Int32.ofNat _
    rw [Int32.ofNat]
    have : ((p.toNat : Nat) : Int) = p := by omega
    apply Int32.toBitVec_inj.mp
    show BitVec.ofInt 32 p = BitVec.ofNat 32 p.toNat
    rw [← BitVec.ofInt_natCast, this]
  rw [e, show Int32.ofInt 1 = 1 from rfl, b_shl p.toNat (by omega) 1 (by omega)]
  by_cases q : x = p
  · subst q
    simp [tb_1]
  · rw [decide_eq_false q]
    by_cases r : p.toNat ≤ x.toNat
    · rw [decide_eq_true r, Bool.true_and, tb_1 _ (by omega), decide_eq_false (by omega)]
    · rw [decide_eq_false r, Bool.false_and]
theorem x32_rng {v : Int} (h : x32 v = v) : -2147483648 ≤ v ∧ v < 2147483648 := by
  have := Int.bmod_def v 4294967296
  unfold x32 at h
  rw [this] at h
  split at h <;> omega
theorem x32_of (x : Int32) : x32 x.toInt = x.toInt := by
  have h1 := fb_rng x
  exact x32_id h1.1 h1.2
theorem tb_ext {v w : Int} (hv : x32 v = v) (hw : x32 w = w) (h : ∀ x, 0 ≤ x → x < 32 → tb v x = tb w x) : v = w := by
  have e : Int32.ofInt v = Int32.ofInt w := b_ext (fun i hi => by
    have := h (i : Int) (by omega) (by omega)
    unfold tb at this
    rw [Int.toNat_natCast] at this
    exact this)
  have hv2 := x32_rng hv
  have hw2 := x32_rng hw
  rw [← em_o32 hv2.1 hv2.2, ← em_o32 hw2.1 hw2.2, e]
theorem bt_and1 (y : Int32) : y &&& 1 = if bt y 0 then 1 else 0 := by
  apply b_ext
  intro i hi
  rw [b_and, tb_1 i hi]
  by_cases q : i = 0
  · subst q
    cases bt y 0 <;> rfl
  · rw [decide_eq_false q, Bool.and_false]
    cases bt y 0 with
    | true => rw [if_pos rfl, tb_1 i hi, decide_eq_false q]
    | false => rw [if_neg (by decide), b_0]
theorem x_bit {s x : Int} (h : 0 ≤ x) (h2 : x < 32) : x_and (x_shr s x) 1 = b2 (tb s x = true) := by
  unfold x_and x_shr tb b2
  have e : Int32.ofInt x = nI x.toNat := by
    apply Int32.toBitVec_inj.mp
    show BitVec.ofInt 32 x = BitVec.ofNat 32 x.toNat
    have : ((x.toNat : Nat) : Int) = x := by omega
    rw [← BitVec.ofInt_natCast, this]
  have e2 : bt (Int32.ofInt s >>> (nI x.toNat &&& 31)) 0 = bt (Int32.ofInt s) x.toNat := by
    rw [b_sshr x.toNat (by omega) _ (by omega : (0 : Nat) < 32), if_pos (by omega), Nat.add_zero]
  rw [Int32.ofInt_toInt, show Int32.ofInt 1 = 1 from rfl, bt_and1, e, e2]
  cases bt (Int32.ofInt s) x.toNat <;> rfl
/-- v is the set of those below 30 of which S holds -/
def mk (v : Int) (S : Int → Prop) : Prop := x32 v = v ∧ ∀ x, 0 ≤ x → x < 32 → (tb v x = true ↔ x < 30 ∧ S x)
theorem mk.one {v w : Int} {S : Int → Prop} (h : mk v S) (k : mk w S) : v = w := tb_ext h.1 k.1 (fun x h1 h2 => Bool.eq_iff_iff.mpr ((h.2 x h1 h2).trans (k.2 x h1 h2).symm))
theorem mk.cong {v : Int} {S T : Int → Prop} (h : mk v S) (k : ∀ x, 0 ≤ x → x < 30 → (S x ↔ T x)) : mk v T := ⟨h.1, fun x h1 h2 => (h.2 x h1 h2).trans ⟨fun z => ⟨z.1, (k x h1 z.1).mp z.2⟩, fun z => ⟨z.1, (k x h1 z.1).mpr z.2⟩⟩⟩
theorem mk.at_ {v x : Int} {S : Int → Prop} (h : mk v S) (h1 : 0 ≤ x) (h2 : x < 30) : tb v x = true ↔ S x := (h.2 x h1 (by omega)).trans ⟨fun z => z.2, fun z => ⟨h2, z⟩⟩
theorem mk_0 : mk 0 (fun _ => False) := ⟨rfl, fun x _ _ => by rw [tb_0]; exact ⟨fun z => (by cases z), fun z => z.2.elim⟩⟩
theorem mk.or {v w : Int} {S T : Int → Prop} (h : mk v S) (k : mk w T) : mk (x_or v w) (fun x => S x ∨ T x) := ⟨x32_of _, fun x h1 h2 => by
  rw [tb_or, Bool.or_eq_true, h.2 x h1 h2, k.2 x h1 h2]
  exact ⟨fun z => z.elim (fun z => ⟨z.1, Or.inl z.2⟩) (fun z => ⟨z.1, Or.inr z.2⟩), fun z => z.2.elim (fun q => Or.inl ⟨z.1, q⟩) (fun q => Or.inr ⟨z.1, q⟩)⟩⟩
theorem mk.and {v w : Int} {S T : Int → Prop} (h : mk v S) (k : mk w T) : mk (x_and v w) (fun x => S x ∧ T x) := ⟨x32_of _, fun x h1 h2 => by
  rw [tb_and, Bool.and_eq_true, h.2 x h1 h2, k.2 x h1 h2]
  exact ⟨fun z => ⟨z.1.1, z.1.2, z.2.2⟩, fun z => ⟨⟨z.1, z.2.1⟩, z.1, z.2.2⟩⟩⟩
/-- v without w, where w is any number -/
theorem mk.minus {v w : Int} {S T : Int → Prop} (h : mk v S) (k : ∀ x, 0 ≤ x → x < 30 → (tb w x = true ↔ T x)) : mk (x_and v (x_xor w (-1))) (fun x => S x ∧ ¬ T x) := ⟨x32_of _, fun x h1 h2 => by
  rw [tb_and, Bool.and_eq_true, h.2 x h1 h2, tb_not h1 h2]
  constructor
  · rintro ⟨⟨a, b⟩, c⟩
    refine ⟨a, b, fun z => ?_⟩
    rw [(k x h1 a).mpr z] at c
    cases c
  · rintro ⟨a, b, c⟩
    refine ⟨⟨a, b⟩, ?_⟩
    cases q : tb w x with
    | false => rfl
    | true => exact absurd ((k x h1 a).mp q) c⟩
theorem mk_bit {p : Int} (h : 0 ≤ p) (h2 : p < 30) : mk (x_shl 1 p) (fun x => x = p) := ⟨x32_of _, fun x h3 h4 => by
  rw [tb_shl1 h (by omega) h3 h4, decide_eq_true_eq]
  exact ⟨fun z => ⟨by omega, z⟩, fun z => z.2⟩⟩
theorem mk.zero {v : Int} {S : Int → Prop} (h : mk v S) : v = 0 ↔ ∀ x, 0 ≤ x → x < 30 → ¬ S x := by
  constructor
  · intro e x h1 h2 hs
    have := (h.at_ h1 h2).mpr hs
    rw [e, tb_0] at this
    cases this
  · intro k
    exact h.one (mk_0.cong (fun x h1 h2 => ⟨fun z => z.elim, fun z => (k x h1 h2 z).elim⟩))
theorem f_holds (s x : Int) (M : em_M) : f_EstateOffice_holds s x M = some (b2 (0 ≤ x ∧ x < 30 ∧ tb s x = true), M) := by
  rw [q_EstateOffice_holds]
  simp only [em_cd]
  by_cases h1 : x < 0
  · rw [if_pos h1, b2_f (by omega)]
  · rw [if_neg h1]
    by_cases h2 : 30 ≤ x
    · rw [if_pos h2, b2_f (by omega)]
    · rw [if_neg h2, x_bit (by omega) (by omega)]
      cases h : tb s x with
      | true => rw [if_neg (by simp [b2]), b2_t ⟨by omega, by omega, rfl⟩]
      | false => rw [if_pos (by simp [b2]), b2_f (by simp)]
theorem f_Mhas {s x : Int} (M : em_M) (h : 0 ≤ x) (h2 : x < 32) : f_Model_has s x M = some (b2 (tb s x = true), M) := by
  rw [q_Model_has, x_bit h h2]
  simp only [em_cd]
  cases q : tb s x with
  | true => simp [b2]
  | false => simp [b2]
