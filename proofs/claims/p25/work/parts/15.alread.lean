/-! what a reader says behind a writer -/
theorem gT_sI {G : GH} {f a : Nat} {v : Int32} (x : Nat) : gT (sI G f a v) x = gT G x := rfl
theorem gT_sR {G : GH} {f a : Nat} {v : Option Nat} (x : Nat) : gT (sR G f a v) x = gT G x := rfl
theorem gT_sA {G : GH} {f a : Nat} {v : Int32} (x : Nat) : gT (sA G f a v) x = gT G x := rfl
theorem gT_sO {G : GH} {f a : Nat} {v : Option Nat} (x : Nat) : gT (sO G f a v) x = gT G x := rfl
theorem gT_sL {G : GH} {f a : Nat} {v : Int64} (x : Nat) : gT (sL G f a v) x = gT G x := rfl
theorem gT_sW {G : GH} {a : Nat} {v : Nat → Option Nat} (x : Nat) : gT (sW G a v) x = gT G x := rfl
theorem gT_al {G : GH} {t n : Nat} (x : Nat) : gT (al G t n) x = if x = gz G then t else gT G x := rfl
theorem gT_bump {G : GH} {k n : Nat} (x : Nat) : gT (bump G k n) x = if x < gz G then gT G x else 0 := rfl
theorem gN_sI {G : GH} {f a : Nat} {v : Int32} (x : Nat) : gN (sI G f a v) x = gN G x := rfl
theorem gN_sR {G : GH} {f a : Nat} {v : Option Nat} (x : Nat) : gN (sR G f a v) x = gN G x := rfl
theorem gN_sA {G : GH} {f a : Nat} {v : Int32} (x : Nat) : gN (sA G f a v) x = gN G x := rfl
theorem gN_sO {G : GH} {f a : Nat} {v : Option Nat} (x : Nat) : gN (sO G f a v) x = gN G x := rfl
theorem gN_sL {G : GH} {f a : Nat} {v : Int64} (x : Nat) : gN (sL G f a v) x = gN G x := rfl
theorem gN_sW {G : GH} {a : Nat} {v : Nat → Option Nat} (x : Nat) : gN (sW G a v) x = gN G x := rfl
theorem gN_al {G : GH} {t n : Nat} (x : Nat) : gN (al G t n) x = if x = gz G then n else gN G x := rfl
theorem gN_bump {G : GH} {k n : Nat} (x : Nat) : gN (bump G k n) x = gN G x := rfl
theorem gI_sI {G : GH} {f a : Nat} {v : Int32} (x y : Nat) : gI (sI G f a v) x y = if x = f ∧ y = a then v else gI G x y := rfl
theorem gI_sR {G : GH} {f a : Nat} {v : Option Nat} (x y : Nat) : gI (sR G f a v) x y = gI G x y := rfl
theorem gI_sA {G : GH} {f a : Nat} {v : Int32} (x y : Nat) : gI (sA G f a v) x y = gI G x y := rfl
theorem gI_sO {G : GH} {f a : Nat} {v : Option Nat} (x y : Nat) : gI (sO G f a v) x y = gI G x y := rfl
theorem gI_sL {G : GH} {f a : Nat} {v : Int64} (x y : Nat) : gI (sL G f a v) x y = gI G x y := rfl
theorem gI_sW {G : GH} {a : Nat} {v : Nat → Option Nat} (x y : Nat) : gI (sW G a v) x y = gI G x y := rfl
theorem gI_al {G : GH} {t n : Nat} (x y : Nat) : gI (al G t n) x y = if y = gz G then 0 else gI G x y := rfl
theorem gI_bump {G : GH} {k n : Nat} (x y : Nat) : gI (bump G k n) x y = gI G x y := rfl
theorem gR_sI {G : GH} {f a : Nat} {v : Int32} (x y : Nat) : gR (sI G f a v) x y = gR G x y := rfl
theorem gR_sR {G : GH} {f a : Nat} {v : Option Nat} (x y : Nat) : gR (sR G f a v) x y = if x = f ∧ y = a then v else gR G x y := rfl
theorem gR_sA {G : GH} {f a : Nat} {v : Int32} (x y : Nat) : gR (sA G f a v) x y = gR G x y := rfl
theorem gR_sO {G : GH} {f a : Nat} {v : Option Nat} (x y : Nat) : gR (sO G f a v) x y = gR G x y := rfl
theorem gR_sL {G : GH} {f a : Nat} {v : Int64} (x y : Nat) : gR (sL G f a v) x y = gR G x y := rfl
theorem gR_sW {G : GH} {a : Nat} {v : Nat → Option Nat} (x y : Nat) : gR (sW G a v) x y = gR G x y := rfl
theorem gR_al {G : GH} {t n : Nat} (x y : Nat) : gR (al G t n) x y = if y = gz G then none else gR G x y := rfl
theorem gR_bump {G : GH} {k n : Nat} (x y : Nat) : gR (bump G k n) x y = gR G x y := rfl
theorem gA_sI {G : GH} {f a : Nat} {v : Int32} (x y : Nat) : gA (sI G f a v) x y = gA G x y := rfl
theorem gA_sR {G : GH} {f a : Nat} {v : Option Nat} (x y : Nat) : gA (sR G f a v) x y = gA G x y := rfl
theorem gA_sA {G : GH} {f a : Nat} {v : Int32} (x y : Nat) : gA (sA G f a v) x y = if x = f ∧ y = a then v else gA G x y := rfl
theorem gA_sO {G : GH} {f a : Nat} {v : Option Nat} (x y : Nat) : gA (sO G f a v) x y = gA G x y := rfl
theorem gA_sL {G : GH} {f a : Nat} {v : Int64} (x y : Nat) : gA (sL G f a v) x y = gA G x y := rfl
theorem gA_sW {G : GH} {a : Nat} {v : Nat → Option Nat} (x y : Nat) : gA (sW G a v) x y = gA G x y := rfl
theorem gA_al {G : GH} {t n : Nat} (x y : Nat) : gA (al G t n) x y = if x = gz G then 0 else gA G x y := rfl
theorem gA_bump {G : GH} {k n : Nat} (x y : Nat) : gA (bump G k n) x y = gA G x y := rfl
theorem gO_sI {G : GH} {f a : Nat} {v : Int32} (x y : Nat) : gO (sI G f a v) x y = gO G x y := rfl
theorem gO_sR {G : GH} {f a : Nat} {v : Option Nat} (x y : Nat) : gO (sR G f a v) x y = gO G x y := rfl
theorem gO_sA {G : GH} {f a : Nat} {v : Int32} (x y : Nat) : gO (sA G f a v) x y = gO G x y := rfl
theorem gO_sO {G : GH} {f a : Nat} {v : Option Nat} (x y : Nat) : gO (sO G f a v) x y = if x = f ∧ y = a then v else gO G x y := rfl
theorem gO_sL {G : GH} {f a : Nat} {v : Int64} (x y : Nat) : gO (sL G f a v) x y = gO G x y := rfl
theorem gO_sW {G : GH} {a : Nat} {v : Nat → Option Nat} (x y : Nat) : gO (sW G a v) x y = if x = a then v y else gO G x y := by
  show (if x = a then v else gO G x) y = _
  by_cases h : x = a
  · rw [if_pos h, if_pos h]
  · rw [if_neg h, if_neg h]
theorem gO_al {G : GH} {t n : Nat} (x y : Nat) : gO (al G t n) x y = if x = gz G then none else gO G x y := rfl
theorem gO_bump {G : GH} {k n : Nat} (x y : Nat) : gO (bump G k n) x y = gO G x y := rfl
theorem gL_sI {G : GH} {f a : Nat} {v : Int32} (x y : Nat) : gL (sI G f a v) x y = gL G x y := rfl
theorem gL_sR {G : GH} {f a : Nat} {v : Option Nat} (x y : Nat) : gL (sR G f a v) x y = gL G x y := rfl
theorem gL_sA {G : GH} {f a : Nat} {v : Int32} (x y : Nat) : gL (sA G f a v) x y = gL G x y := rfl
theorem gL_sO {G : GH} {f a : Nat} {v : Option Nat} (x y : Nat) : gL (sO G f a v) x y = gL G x y := rfl
theorem gL_sL {G : GH} {f a : Nat} {v : Int64} (x y : Nat) : gL (sL G f a v) x y = if x = f ∧ y = a then v else gL G x y := rfl
theorem gL_sW {G : GH} {a : Nat} {v : Nat → Option Nat} (x y : Nat) : gL (sW G a v) x y = gL G x y := rfl
theorem gL_al {G : GH} {t n : Nat} (x y : Nat) : gL (al G t n) x y = if x = gz G then 0 else gL G x y := rfl
theorem gL_bump {G : GH} {k n : Nat} (x y : Nat) : gL (bump G k n) x y = gL G x y := rfl
theorem gz_sI {G : GH} {f a : Nat} {v : Int32} : gz (sI G f a v) = gz G := rfl
theorem gz_sR {G : GH} {f a : Nat} {v : Option Nat} : gz (sR G f a v) = gz G := rfl
theorem gz_sA {G : GH} {f a : Nat} {v : Int32} : gz (sA G f a v) = gz G := rfl
theorem gz_sO {G : GH} {f a : Nat} {v : Option Nat} : gz (sO G f a v) = gz G := rfl
theorem gz_sL {G : GH} {f a : Nat} {v : Int64} : gz (sL G f a v) = gz G := rfl
theorem gz_sW {G : GH} {a : Nat} {v : Nat → Option Nat} : gz (sW G a v) = gz G := rfl
theorem gz_al {G : GH} {t n : Nat} : gz (al G t n) = gz G + 1 := rfl
theorem gz_bump {G : GH} {k n : Nat} : gz (bump G k n) = gz G + k := rfl
theorem gs_sI {G : GH} {f a : Nat} {v : Int32} : gs (sI G f a v) = gs G := rfl
theorem gs_sR {G : GH} {f a : Nat} {v : Option Nat} : gs (sR G f a v) = gs G := rfl
theorem gs_sA {G : GH} {f a : Nat} {v : Int32} : gs (sA G f a v) = gs G := rfl
theorem gs_sO {G : GH} {f a : Nat} {v : Option Nat} : gs (sO G f a v) = gs G := rfl
theorem gs_sL {G : GH} {f a : Nat} {v : Int64} : gs (sL G f a v) = gs G := rfl
theorem gs_sW {G : GH} {a : Nat} {v : Nat → Option Nat} : gs (sW G a v) = gs G := rfl
theorem gs_al {G : GH} {t n : Nat} : gs (al G t n) = gs G + n := rfl
theorem gs_bump {G : GH} {k n : Nat} : gs (bump G k n) = gs G + n := rfl
