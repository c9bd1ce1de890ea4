/-! The machine follows the walker. -/
def mo_in (w : Jvm.Cond) : Bool := decide (w ∈ lw_tbl) && goodWord w
theorem mo_in_ws {w : Jvm.Cond} (h : mo_in w = true) : w ∈ mo_ws := by
  unfold mo_in at h
  rw [Bool.and_eq_true] at h
  exact List.mem_filter.mpr ⟨of_decide_eq_true h.1, h.2⟩
/-- a link of a field: (class number, place, kind) -/
def mo_fl (own : String) (idx a b t : Nat) : Bool := match mo_cls[a]? with
  | some q => decide (b < q.2.2) && (decide (mo_ft a b = t) && (mo_in (.fieldLink own idx q.1 (q.2.1 b).2.1 (q.2.1 b).2.2.1) || decide (Cond.fieldLinkNest own idx q.1 (q.2.1 b).2.1 (q.2.1 b).2.2.1 "GateNames" ∈ mo_nest)))
  | none => false
def mo_fw (own : String) (ini : Bool) (idx a b : Nat) : Bool := match mo_cls[a]? with
  | some q => (decide ((q.2.1 b).2.2.2 = false)) || (ini && (decide (q.1 = own) && mo_in (.fieldLink own idx q.1 (q.2.1 b).2.1 (q.2.1 b).2.2.1)))
  | none => false
def mo_len : ClassFile.Instr → Nat
  | .bipush _ => 2
  | .sipush _ => 3
  | .ldc _ => 2
  | .ldc_w _ => 3
  | .ldc2_w _ => 3
  | .iload _ => 2
  | .lload _ => 2
  | .aload _ => 2
  | .istore _ => 2
  | .lstore _ => 2
  | .astore _ => 2
  | .iinc _ _ => 3
  | .ifCond _ _ => 3
  | .if_icmp _ _ => 3
  | .goto _ => 3
  | .getfield _ => 3
  | .getstatic _ => 3
  | .new _ => 3
  | .newarray _ => 2
  | .anewarray _ => 3
  | .putfield _ => 3
  | _ => 1
/-- the ops whose length is not looked at here -/
def mo_any : ClassFile.Instr → Bool
  | .invokestatic _ => true
  | .invokevirtual _ => true
  | .invokespecial _ => true
  | .tableswitch .. => true
  | .lookupswitch .. => true
  | _ => false
def mo_lk (own : String) (ini : Bool) (pc : Nat) (op : ClassFile.Instr) (a b t : Nat) (v : Value) : Bool := match op with
  | .iconst n => decide (v = .int (Int32.ofInt n))
  | .bipush n => decide (v = .int (Int8.ofInt n).toInt32)
  | .sipush n => decide (v = .int (Int16.ofInt n).toInt32)
  | .lconst n => decide (v = .long (Int64.ofNat n))
  | .ldc idx => match v with
    | .int x => mo_in (.constant own idx x)
    | _ => false
  | .ldc_w idx => match v with
    | .int x => mo_in (.constant own idx x)
    | _ => false
  | .ldc2_w idx => match v with
    | .long x => mo_in (.constantLong own idx x)
    | _ => false
  | .ifCond _ off => decide ((pc : Int) + off = (a : Int))
  | .if_icmp _ off => decide ((pc : Int) + off = (a : Int))
  | .goto off => decide ((pc : Int) + off = (a : Int))
  | .getfield idx => mo_fl own idx a b t
  | .putfield idx => mo_fl own idx a b t && mo_fw own ini idx a b
  | .getstatic idx => (decide (a = 1000001) && decide (Cond.fieldLinkNest own idx "GateNames" "OWN_WORDS" "[I" "GateNames" ∈ mo_nest)) || (decide (a = 1000002) && mo_in (.fieldLink own idx "GateNames$Guess" "WITHOUT" "[J"))
  | .new idx => match mo_cls[a]? with
    | some q => decide (b = q.2.2) && mo_in (.classLink own idx q.1)
    | none => false
  | .newarray at_ => match at_ with
    | .int => decide (a = 100)
    | .long => decide (a = 101)
    | .byte => decide (a = 102)
    | .boolean => decide (a = 103)
    | _ => false
  | .anewarray idx => mo_in (.classLink own idx "GateNames$Town")
  | .baload => decide (t < 2)
  | .aastore => decide (a = 3)
  | _ => true
def mo_chk (own : String) (ini : Bool) (cc : ByteArray) (q : Nat × mo_I) : Bool := match q with
  | (pc, op, len, a, b, t, v) => decide (ClassFile.decode cc pc = .ok (op, len)) && ((mo_any op || decide (len = mo_len op)) && mo_lk own ini pc op a b t v)
theorem mo_at_mem : ∀ {code : List (Nat × mo_I)} {pc : Nat} {i : mo_I}, mo_at code pc = some i → (pc, i) ∈ code
  | [], _, _, h => by cases h
  | q :: r, pc, i, h => by
    unfold mo_at at h
    split at h
    · rename_i hq
      have e : q.1 = pc := Nat.eq_of_beq_eq_true hq
      cases h
      rw [← e]
      exact List.mem_cons_self
    · exact List.mem_cons_of_mem _ (mo_at_mem h)
section INV
variable {st : List Value} {T : (mo_F → Prop) → Prop}
theorem mo_pi_inv {f : Int32 → List Value → mo_T} (h : mo_pi st f = some T) : ∃ x r, st = .int x :: r ∧ f x r = some T := by
  unfold mo_pi at h; split at h <;> first | exact ⟨_, _, rfl, h⟩ | cases h
theorem mo_pii_inv {f : Int32 → Int32 → List Value → mo_T} (h : mo_pii st f = some T) : ∃ x y r, st = .int y :: .int x :: r ∧ f x y r = some T := by
  unfold mo_pii at h; split at h <;> first | exact ⟨_, _, _, rfl, h⟩ | cases h
theorem mo_pl_inv {f : Int64 → List Value → mo_T} (h : mo_pl st f = some T) : ∃ x r, st = .long x :: r ∧ f x r = some T := by
  unfold mo_pl at h; split at h <;> first | exact ⟨_, _, rfl, h⟩ | cases h
theorem mo_pll_inv {f : Int64 → Int64 → List Value → mo_T} (h : mo_pll st f = some T) : ∃ x y r, st = .long y :: .long x :: r ∧ f x y r = some T := by
  unfold mo_pll at h; split at h <;> first | exact ⟨_, _, _, rfl, h⟩ | cases h
theorem mo_pli_inv {f : Int64 → Int32 → List Value → mo_T} (h : mo_pli st f = some T) : ∃ x y r, st = .int y :: .long x :: r ∧ f x y r = some T := by
  unfold mo_pli at h; split at h <;> first | exact ⟨_, _, _, rfl, h⟩ | cases h
theorem mo_pr_inv {f : Nat → List Value → mo_T} (h : mo_pr st f = some T) : ∃ x r, st = .ref x :: r ∧ f x r = some T := by
  unfold mo_pr at h; split at h <;> first | exact ⟨_, _, rfl, h⟩ | cases h
theorem mo_pra_inv {f : Nat → Int32 → List Value → mo_T} (h : mo_pra st f = some T) : ∃ a i r, st = .int i :: .ref a :: r ∧ f a i r = some T := by
  unfold mo_pra at h; split at h <;> first | exact ⟨_, _, _, rfl, h⟩ | cases h
theorem mo_prai_inv {f : Nat → Int32 → Int32 → List Value → mo_T} (h : mo_prai st f = some T) : ∃ a i x r, st = .int x :: .int i :: .ref a :: r ∧ f a i x r = some T := by
  unfold mo_prai at h; split at h <;> first | exact ⟨_, _, _, _, rfl, h⟩ | cases h
theorem mo_pral_inv {f : Nat → Int32 → Int64 → List Value → mo_T} (h : mo_pral st f = some T) : ∃ a i x r, st = .long x :: .int i :: .ref a :: r ∧ f a i x r = some T := by
  unfold mo_pral at h; split at h <;> first | exact ⟨_, _, _, _, rfl, h⟩ | cases h
theorem mo_prar_inv {f : Nat → Int32 → Nat → List Value → mo_T} (h : mo_prar st f = some T) : ∃ a i x r, st = .ref x :: .int i :: .ref a :: r ∧ f a i x r = some T := by
  unfold mo_prar at h; split at h <;> first | exact ⟨_, _, _, _, rfl, h⟩ | cases h
theorem mo_pir_inv {f : Nat → Int32 → List Value → mo_T} (h : mo_pir st f = some T) : ∃ a x r, st = .int x :: .ref a :: r ∧ f a x r = some T := by
  unfold mo_pir at h; split at h <;> first | exact ⟨_, _, _, rfl, h⟩ | cases h
theorem mo_plr_inv {f : Nat → Int64 → List Value → mo_T} (h : mo_plr st f = some T) : ∃ a x r, st = .long x :: .ref a :: r ∧ f a x r = some T := by
  unfold mo_plr at h; split at h <;> first | exact ⟨_, _, _, rfl, h⟩ | cases h
theorem mo_prr_inv {f : Nat → Nat → List Value → mo_T} (h : mo_prr st f = some T) : ∃ a x r, st = .ref x :: .ref a :: r ∧ f a x r = some T := by
  unfold mo_prr at h; split at h <;> first | exact ⟨_, _, _, rfl, h⟩ | cases h
theorem mo_gi_inv {ml : mo_L} {k : Nat} {f : Int32 → mo_T} (h : (mo_gi ml k).bind f = some T) : ∃ x, ml[k]? = some (some (.int x)) ∧ f x = some T := by
  unfold mo_gi at h; split at h
  · rename_i hx; exact ⟨_, hx, h⟩
  · cases h
theorem mo_gl_inv {ml : mo_L} {k : Nat} {f : Int64 → mo_T} (h : (mo_gl ml k).bind f = some T) : ∃ x, ml[k]? = some (some (.long x)) ∧ f x = some T := by
  unfold mo_gl at h; split at h
  · rename_i hx; exact ⟨_, hx, h⟩
  · cases h
theorem mo_gr_inv {ml : mo_L} {k : Nat} {f : Nat → mo_T} (h : (mo_gr ml k).bind f = some T) : ∃ x, ml[k]? = some (some (.ref x)) ∧ f x = some T := by
  unfold mo_gr at h; split at h
  · rename_i hx; exact ⟨_, hx, h⟩
  · cases h
theorem mo_if_inv {c : Prop} {_ : Decidable c} {f : mo_F} (h : (if c then mo_go f else none) = some T) : c ∧ T = fun k => k f := by
  split at h
  · rename_i hc; exact ⟨hc, (Option.some.inj h).symm⟩
  · cases h
end INV
theorem mo_cat {ad : Nat → Nat} {w : Value} (h : mo_cat1 w = true) : (mo_tr ad w).category = 1 := by
  cases w with
  | int x => rfl
  | ref a => show (if a = 0 then Value.null else Value.ref (ad a)).category = 1; split <;> rfl
  | _ => cases h
theorem mo_is2_cat {ad : Nat → Nat} {w : Value} (h : mo_is2 w = false) : ((mo_tr ad w).category == 2) = false := by
  cases w with
  | long x => cases h
  | double x => cases h
  | ref a => show ((if a = 0 then Value.null else Value.ref (ad a)).category == 2) = false; split <;> rfl
  | _ => rfl
/-- the known locals as the kit lists them -/
def mo_lv (ad : Nat → Nat) (ml : mo_L) : List (Nat × Value) := (List.range ml.length).filterMap (fun i => match ml[i]? with
  | some (some v) => some (i, mo_tr ad v)
  | _ => none)
theorem mo_lv_mem {ad : Nat → Nat} {ml : mo_L} {i : Nat} {v : Value} (h : ml[i]? = some (some v)) : (i, mo_tr ad v) ∈ mo_lv ad ml := by
  refine List.mem_filterMap.mpr ⟨i, List.mem_range.mpr (List.getElem?_eq_some_iff.mp h).1, ?_⟩
  rw [h]
theorem mo_lv_has {ad : Nat → Nat} {ml : mo_L} {ls : Array Slot} (h : mo_LR ad ls ml) : lv_has ls ml.length (mo_lv ad ml) := by
  obtain ⟨h1, h2, h3⟩ := h
  refine ⟨h1, h2, fun q hq => ?_⟩
  obtain ⟨i, -, hi⟩ := List.mem_filterMap.mp hq
  split at hi
  · rename_i v hv
    cases hi
    exact h3 i v hv
  · cases hi
theorem mo_cl_len (ml : mo_L) (k : Nat) : (mo_cl ml k).length = ml.length := by
  unfold mo_cl
  split
  · rfl
  · split
    · split <;> simp
    · rfl
theorem mo_cl_get {ml : mo_L} {k i : Nat} {w : Value} (h : (mo_cl ml k)[i]? = some (some w)) : ml[i]? = some (some w) ∧ (i + 1 = k → mo_is2 w = false) := by
  unfold mo_cl at h
  split at h
  · exact ⟨h, fun e => by omega⟩
  · rename_i j
    split at h
    · rename_i u hu
      split at h
      · by_cases e : i = j
        · subst e
          rw [List.getElem?_set_self (List.getElem?_eq_some_iff.mp hu).1] at h
          cases h
        · rw [List.getElem?_set_ne (fun z => e z.symm)] at h
          exact ⟨h, fun z => absurd (by omega) e⟩
      · rename_i h2
        refine ⟨h, fun z => ?_⟩
        have : i = j := by omega
        subst this
        rw [hu] at h
        cases h
        exact h2
    · rename_i hne
      exact ⟨h, fun z => by
        have : i = j := by omega
        subst this
        exact absurd h (hne w)⟩
theorem mo_LR_s1 {ad : Nat → Nat} {ml : mo_L} {ls' : Array Slot} {k : Nat} {v : Value} (hk : k < ml.length) (h : lv_has ls' ml.length ((k, mo_tr ad v) :: (mo_lv ad ml).filter (fun q => !(q.1 == k) && !(q.1 + 1 == k && q.2.category == 2)))) : mo_LR ad ls' (mo_s1 ml k v) := by
  obtain ⟨h1, h2, h3⟩ := h
  refine ⟨by rw [h1]; simp [mo_s1, mo_cl_len], h2, fun i w hw => ?_⟩
  unfold mo_s1 at hw
  by_cases e : i = k
  · subst e
    rw [List.getElem?_set_self (by rw [mo_cl_len]; exact hk)] at hw
    cases hw
    exact h3 _ List.mem_cons_self
  · rw [List.getElem?_set_ne (fun z => e z.symm)] at hw
    obtain ⟨g1, g2⟩ := mo_cl_get hw
    refine h3 (i, mo_tr ad w) (List.mem_cons_of_mem _ (List.mem_filter.mpr ⟨mo_lv_mem g1, ?_⟩))
    by_cases e2 : i + 1 = k
    · simp [e, e2, mo_is2_cat (ad := ad) (g2 e2)]
    · simp [e, e2]
theorem mo_LR_s2 {ad : Nat → Nat} {ml : mo_L} {ls' : Array Slot} {k : Nat} {v : Value} (hk : k + 1 < ml.length) (h : lv_has ls' ml.length ((k, mo_tr ad v) :: (mo_lv ad ml).filter (fun q => !(q.1 == k) && (!(q.1 == k + 1) && !(q.1 + 1 == k && q.2.category == 2))))) : mo_LR ad ls' (mo_s2 ml k v) := by
  obtain ⟨h1, h2, h3⟩ := h
  refine ⟨by rw [h1]; simp [mo_s2, mo_cl_len], h2, fun i w hw => ?_⟩
  unfold mo_s2 at hw
  by_cases e1 : i = k + 1
  · subst e1
    rw [List.getElem?_set_self (by rw [List.length_set, mo_cl_len]; exact hk)] at hw
    cases hw
  rw [List.getElem?_set_ne (fun z => e1 z.symm)] at hw
  by_cases e : i = k
  · subst e
    rw [List.getElem?_set_self (by rw [mo_cl_len]; omega)] at hw
    cases hw
    exact h3 _ List.mem_cons_self
  · rw [List.getElem?_set_ne (fun z => e z.symm)] at hw
    obtain ⟨g1, g2⟩ := mo_cl_get hw
    refine h3 (i, mo_tr ad w) (List.mem_cons_of_mem _ (List.mem_filter.mpr ⟨mo_lv_mem g1, ?_⟩))
    by_cases e2 : i + 1 = k
    · simp [e, e1, e2, mo_is2_cat (ad := ad) (g2 e2)]
    · simp [e, e1, e2]
