/-! A call of a large method: its code word by rfl. Written by wip/gen/cutcalls.py. -/
/-- a call's links but its code -/
noncomputable def em_okcall0 (own : String) (i m2 : Nat) (n ci : Int) (li nest ini inst sel : Nat) : Bool :=
  Nat.blt m2 243 && em_okref own i m2 nest li && em_wd ini (.initialized (em_y m2).cls) && Nat.ble (em_mx m2) 45 &&
  ((em_y m2).cls != "java/lang/invoke/MethodHandle") && ((em_y m2).cls != "java/lang/invoke/VarHandle") && plainName (em_y m2).cls &&
  (decide ((parseMethodDescriptor (em_y m2).desc).map (fun d => d.parameters.length + 1) = some n.toNat) && em_wd inst (.instanceMethod (em_y m2)) && em_wd sel (.selects (em_y m2).cls (em_y m2) (em_y m2)) && ((decide (0 ≤ ci) && decide ((em_cls ci.toNat).1 = (em_y m2).cls) && Nat.blt ci.toNat 12) || (decide (ci = -2) && decide ((em_y m2).cls = "java/lang/String"))))
theorem okcall_of {own : String} {i m2 : Nat} {mi n ci : Int} {li nest ini cd inst sel : Nat} (hm : mi.toNat = m2) (hcd : em_wd cd (.code (em_y m2) (em_b m2) (em_mx m2) (em_rt m2)) = true) (h : em_okcall0 own i m2 n ci li nest ini inst sel = true) : em_okcall own i true mi n ci [li, nest, ini, cd, inst, sel] = true := by
  subst hm
  unfold em_okcall0 at h
  unfold em_okcall
  simp only [Bool.and_eq_true, if_true] at h ⊢
  simp only [h, hcd, and_self]
theorem okm_virt {mid pc i l m2 : Nat} {mi n ci : Int} {tg : Option (List Nat)} {li nest ini cd inst sel : Nat} {cl : List (Nat × em_I)} {hs : List (List Nat)} (e1 : cl = [(pc, (.invokevirtual i, l, [mi, n, ci], tg))]) (e2 : hs = [[li, nest, ini, cd, inst, sel]]) (hd : decode (em_b mid) pc = .ok (.invokevirtual i, 3)) (hm : mi.toNat = m2) (hcd : em_wd cd (.code (em_y m2) (em_b m2) (em_mx m2) (em_rt m2)) = true) (h : em_okcall0 (em_y mid).cls i m2 n ci li nest ini inst sel = true) : em_okm mid cl hs = true := by
  subst e1
  subst e2
  unfold em_okm em_oki em_okw
  dsimp only
  rw [hd, okcall_of hm hcd h]
  simp [em_ilen, em_okm]
theorem em_wd_of {i : Nat} {w : Jvm.Cond} (h : lw_tbl[i]? = some w) (hg : goodWord w = true) : em_wd i w = true := by
  unfold em_wd
  rw [h]
  show (decide (w = w) && goodWord w) = true
  rw [hg, decide_eq_true rfl]
  rfl
set_option maxRecDepth 100000 in
theorem cw_182 : em_wd 1791 (.code (em_y 182) (em_b 182) (em_mx 182) (em_rt 182)) = true := em_wd_of rfl rfl
set_option maxRecDepth 100000 in
theorem cw_200 : em_wd 1878 (.code (em_y 200) (em_b 200) (em_mx 200) (em_rt 200)) = true := em_wd_of rfl rfl
set_option maxRecDepth 100000 in
theorem cw_214 : em_wd 1986 (.code (em_y 214) (em_b 214) (em_mx 214) (em_rt 214)) = true := em_wd_of rfl rfl
set_option maxRecDepth 100000 in
theorem cw_223 : em_wd 1934 (.code (em_y 223) (em_b 223) (em_mx 223) (em_rt 223)) = true := em_wd_of rfl rfl
set_option maxRecDepth 100000 in
theorem cw_224 : em_wd 1942 (.code (em_y 224) (em_b 224) (em_mx 224) (em_rt 224)) = true := em_wd_of rfl rfl
set_option maxRecDepth 100000 in
theorem cw_225 : em_wd 1974 (.code (em_y 225) (em_b 225) (em_mx 225) (em_rt 225)) = true := em_wd_of rfl rfl
set_option maxRecDepth 100000 in
theorem cw_227 : em_wd 2032 (.code (em_y 227) (em_b 227) (em_mx 227) (em_rt 227)) = true := em_wd_of rfl rfl
set_option maxRecDepth 100000 in
theorem cw_228 : em_wd 2048 (.code (em_y 228) (em_b 228) (em_mx 228) (em_rt 228)) = true := em_wd_of rfl rfl
set_option maxRecDepth 100000 in
theorem cw_232 : em_wd 1922 (.code (em_y 232) (em_b 232) (em_mx 232) (em_rt 232)) = true := em_wd_of rfl rfl
