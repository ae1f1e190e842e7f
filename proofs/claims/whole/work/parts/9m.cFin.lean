/-! ===== all cells, as they are made ===== -/
def mem0 : sh_Mem := fun a => if a = 129 then rkF 45 else if a = 1 then (fun k => if k = 9 then 22 else if k = 10 then 33 else if k = 11 then 44 else if k = 12 then 48 else 0) else fun _ => 0
abbrev zF : Nat → va_E := fun _ => .inr (0, [])
def f1F : Nat → va_E := fu zF 1 (.inr (11, sfs0))
def f2F (g : sh_G) : Nat → va_E := fu (sF17 g f1F) 96 (.inr (12, mfs0))
def f3F (g : sh_G) : Nat → va_E := fu (mF42 g (f2F g)) 129 (.inl (g.2.2.2.1 0, 45, sh_ac g 0 (rkF 45)))
def finF (g : sh_G) : Nat → va_E := fu (f3F g) 139 (.inl (g.2.2.2.1 1, 1, sh_ac g 1 (fun _ => 0)))
theorem mFl0 {g : sh_G} {F : Nat → va_E} {a : Nat} : F a = F a := rfl
theorem mFl1 {g : sh_G} {F : Nat → va_E} {a : Nat} (h : a < 96) : mF1 g F a = F a := by
  unfold mF1
  rw [fu_n _ _ (by omega), fu_n _ _ (by omega)]
theorem mFl2 {g : sh_G} {F : Nat → va_E} {a : Nat} (h : a < 96) : mF2 g F a = F a := by
  unfold mF2
  rw [fu_n _ _ (by omega), fu_n _ _ (by omega)]
  exact mFl1 h
theorem mFl3 {g : sh_G} {F : Nat → va_E} {a : Nat} (h : a < 96) : mF3 g F a = F a := by
  unfold mF3
  rw [fu_n _ _ (by omega), fu_n _ _ (by omega)]
  exact mFl2 h
theorem mFl4 {g : sh_G} {F : Nat → va_E} {a : Nat} (h : a < 96) : mF4 g F a = F a := by
  unfold mF4
  rw [fu_n _ _ (by omega), fu_n _ _ (by omega)]
  exact mFl3 h
theorem mFl5 {g : sh_G} {F : Nat → va_E} {a : Nat} (h : a < 96) : mF5 g F a = F a := by
  unfold mF5
  rw [fu_n _ _ (by omega), fu_n _ _ (by omega)]
  exact mFl4 h
theorem mFl6 {g : sh_G} {F : Nat → va_E} {a : Nat} (h : a < 96) : mF6 g F a = F a := by
  unfold mF6
  rw [fu_n _ _ (by omega), fu_n _ _ (by omega)]
  exact mFl5 h
theorem mFl7 {g : sh_G} {F : Nat → va_E} {a : Nat} (h : a < 96) : mF7 g F a = F a := by
  unfold mF7
  rw [fu_n _ _ (by omega), fu_n _ _ (by omega)]
  exact mFl6 h
theorem mFl8 {g : sh_G} {F : Nat → va_E} {a : Nat} (h : a < 96) : mF8 g F a = F a := by
  unfold mF8
  rw [fu_n _ _ (by omega), fu_n _ _ (by omega)]
  exact mFl7 h
theorem mFl9 {g : sh_G} {F : Nat → va_E} {a : Nat} (h : a < 96) : mF9 g F a = F a := by
  unfold mF9
  rw [fu_n _ _ (by omega), fu_n _ _ (by omega)]
  exact mFl8 h
theorem mFl10 {g : sh_G} {F : Nat → va_E} {a : Nat} (h : a < 96) : mF10 g F a = F a := by
  unfold mF10
  rw [fu_n _ _ (by omega), fu_n _ _ (by omega)]
  exact mFl9 h
theorem mFl11 {g : sh_G} {F : Nat → va_E} {a : Nat} (h : a < 96) : mF11 g F a = F a := by
  unfold mF11
  rw [fu_n _ _ (by omega), fu_n _ _ (by omega)]
  exact mFl10 h
theorem mFl12 {g : sh_G} {F : Nat → va_E} {a : Nat} (h : a < 96) : mF12 g F a = F a := by
  unfold mF12
  rw [fu_n _ _ (by omega), fu_n _ _ (by omega)]
  exact mFl11 h
theorem mFl13 {g : sh_G} {F : Nat → va_E} {a : Nat} (h : a < 96) : mF13 g F a = F a := by
  unfold mF13
  rw [fu_n _ _ (by omega), fu_n _ _ (by omega)]
  exact mFl12 h
theorem mFl14 {g : sh_G} {F : Nat → va_E} {a : Nat} (h : a < 96) : mF14 g F a = F a := by
  unfold mF14
  rw [fu_n _ _ (by omega), fu_n _ _ (by omega)]
  exact mFl13 h
theorem mFl15 {g : sh_G} {F : Nat → va_E} {a : Nat} (h : a < 96) : mF15 g F a = F a := by
  unfold mF15
  rw [fu_n _ _ (by omega), fu_n _ _ (by omega)]
  exact mFl14 h
theorem mFl16 {g : sh_G} {F : Nat → va_E} {a : Nat} (h : a < 96) : mF16 g F a = F a := by
  unfold mF16
  rw [fu_n _ _ (by omega), fu_n _ _ (by omega)]
  exact mFl15 h
theorem mFl17 {g : sh_G} {F : Nat → va_E} {a : Nat} (h : a < 96) : mF17 g F a = F a := by
  unfold mF17
  rw [fu_n _ _ (by omega), fu_n _ _ (by omega)]
  exact mFl16 h
theorem mFl18 {g : sh_G} {F : Nat → va_E} {a : Nat} (h : a < 96) : mF18 g F a = F a := by
  unfold mF18
  rw [fu_n _ _ (by omega), fu_n _ _ (by omega)]
  exact mFl17 h
theorem mFl19 {g : sh_G} {F : Nat → va_E} {a : Nat} (h : a < 96) : mF19 g F a = F a := by
  unfold mF19
  rw [fu_n _ _ (by omega), fu_n _ _ (by omega)]
  exact mFl18 h
theorem mFl20 {g : sh_G} {F : Nat → va_E} {a : Nat} (h : a < 96) : mF20 g F a = F a := by
  unfold mF20
  rw [fu_n _ _ (by omega), fu_n _ _ (by omega)]
  exact mFl19 h
theorem mFl21 {g : sh_G} {F : Nat → va_E} {a : Nat} (h : a < 96) : mF21 g F a = F a := by
  unfold mF21
  rw [fu_n _ _ (by omega), fu_n _ _ (by omega)]
  exact mFl20 h
theorem mFl22 {g : sh_G} {F : Nat → va_E} {a : Nat} (h : a < 96) : mF22 g F a = F a := by
  unfold mF22
  rw [fu_n _ _ (by omega), fu_n _ _ (by omega)]
  exact mFl21 h
theorem mFl23 {g : sh_G} {F : Nat → va_E} {a : Nat} (h : a < 96) : mF23 g F a = F a := by
  unfold mF23
  rw [fu_n _ _ (by omega), fu_n _ _ (by omega)]
  exact mFl22 h
theorem mFl24 {g : sh_G} {F : Nat → va_E} {a : Nat} (h : a < 96) : mF24 g F a = F a := by
  unfold mF24
  rw [fu_n _ _ (by omega), fu_n _ _ (by omega)]
  exact mFl23 h
theorem mFl25 {g : sh_G} {F : Nat → va_E} {a : Nat} (h : a < 96) : mF25 g F a = F a := by
  unfold mF25
  rw [fu_n _ _ (by omega), fu_n _ _ (by omega)]
  exact mFl24 h
theorem mFl26 {g : sh_G} {F : Nat → va_E} {a : Nat} (h : a < 96) : mF26 g F a = F a := by
  unfold mF26
  rw [fu_n _ _ (by omega), fu_n _ _ (by omega)]
  exact mFl25 h
theorem mFl27 {g : sh_G} {F : Nat → va_E} {a : Nat} (h : a < 96) : mF27 g F a = F a := by
  unfold mF27
  rw [fu_n _ _ (by omega), fu_n _ _ (by omega)]
  exact mFl26 h
theorem mFl28 {g : sh_G} {F : Nat → va_E} {a : Nat} (h : a < 96) : mF28 g F a = F a := by
  unfold mF28
  rw [fu_n _ _ (by omega), fu_n _ _ (by omega)]
  exact mFl27 h
theorem mFl29 {g : sh_G} {F : Nat → va_E} {a : Nat} (h : a < 96) : mF29 g F a = F a := by
  unfold mF29
  rw [fu_n _ _ (by omega), fu_n _ _ (by omega)]
  exact mFl28 h
theorem mFl30 {g : sh_G} {F : Nat → va_E} {a : Nat} (h : a < 96) : mF30 g F a = F a := by
  unfold mF30
  rw [fu_n _ _ (by omega), fu_n _ _ (by omega)]
  exact mFl29 h
theorem mFl31 {g : sh_G} {F : Nat → va_E} {a : Nat} (h : a < 96) : mF31 g F a = F a := by
  unfold mF31
  rw [fu_n _ _ (by omega), fu_n _ _ (by omega)]
  exact mFl30 h
theorem mFl32 {g : sh_G} {F : Nat → va_E} {a : Nat} (h : a < 96) : mF32 g F a = F a := by
  unfold mF32
  rw [fu_n _ _ (by omega), fu_n _ _ (by omega)]
  exact mFl31 h
theorem mFl33 {g : sh_G} {F : Nat → va_E} {a : Nat} (h : a < 96) : mF33 g F a = F a := by
  unfold mF33
  rw [fu_n _ _ (by omega), fu_n _ _ (by omega)]
  exact mFl32 h
theorem mFl34 {g : sh_G} {F : Nat → va_E} {a : Nat} (h : a < 96) : mF34 g F a = F a := by
  unfold mF34
  rw [fu_n _ _ (by omega), fu_n _ _ (by omega)]
  exact mFl33 h
theorem mFl35 {g : sh_G} {F : Nat → va_E} {a : Nat} (h : a < 96) : mF35 g F a = F a := by
  unfold mF35
  rw [fu_n _ _ (by omega), fu_n _ _ (by omega)]
  exact mFl34 h
theorem mFl36 {g : sh_G} {F : Nat → va_E} {a : Nat} (h : a < 96) : mF36 g F a = F a := by
  unfold mF36
  rw [fu_n _ _ (by omega), fu_n _ _ (by omega)]
  exact mFl35 h
theorem mFl37 {g : sh_G} {F : Nat → va_E} {a : Nat} (h : a < 96) : mF37 g F a = F a := by
  unfold mF37
  rw [fu_n _ _ (by omega), fu_n _ _ (by omega)]
  exact mFl36 h
theorem mFl38 {g : sh_G} {F : Nat → va_E} {a : Nat} (h : a < 96) : mF38 g F a = F a := by
  unfold mF38
  rw [fu_n _ _ (by omega), fu_n _ _ (by omega)]
  exact mFl37 h
theorem mFl39 {g : sh_G} {F : Nat → va_E} {a : Nat} (h : a < 96) : mF39 g F a = F a := by
  unfold mF39
  rw [fu_n _ _ (by omega), fu_n _ _ (by omega)]
  exact mFl38 h
theorem mFl40 {g : sh_G} {F : Nat → va_E} {a : Nat} (h : a < 96) : mF40 g F a = F a := by
  unfold mF40
  rw [fu_n _ _ (by omega), fu_n _ _ (by omega)]
  exact mFl39 h
theorem mFl41 {g : sh_G} {F : Nat → va_E} {a : Nat} (h : a < 96) : mF41 g F a = F a := by
  unfold mF41
  rw [fu_n _ _ (by omega), fu_n _ _ (by omega)]
  exact mFl40 h
theorem mFl42 {g : sh_G} {F : Nat → va_E} {a : Nat} (h : a < 96) : mF42 g F a = F a := by
  unfold mF42
  rw [fu_n _ _ (by omega), fu_n _ _ (by omega)]
  exact mFl41 h
theorem fin_lo {g : sh_G} {a : Nat} (h : a < 96) : finF g a = sF17 g f1F a := by
  unfold finF f3F
  rw [fu_n _ _ (by omega), fu_n _ _ (by omega), mFl42 h]
  unfold f2F
  rw [fu_n _ _ (by omega)]
set_option maxRecDepth 20000 in
theorem fin_1 (g : sh_G) : finF g 1 = sh_cel g mem0 1 := by
  rw [fin_lo (by decide)]; rfl
set_option maxRecDepth 20000 in
theorem fin_2 (g : sh_G) : finF g 2 = sh_cel g mem0 2 := by
  rw [fin_lo (by decide)]; rfl
set_option maxRecDepth 20000 in
theorem fin_3 (g : sh_G) : finF g 3 = sh_cel g mem0 3 := by
  rw [fin_lo (by decide)]; rfl
set_option maxRecDepth 20000 in
theorem fin_4 (g : sh_G) : finF g 4 = sh_cel g mem0 4 := by
  rw [fin_lo (by decide)]; rfl
set_option maxRecDepth 20000 in
theorem fin_5 (g : sh_G) : finF g 5 = sh_cel g mem0 5 := by
  rw [fin_lo (by decide)]; rfl
set_option maxRecDepth 20000 in
theorem fin_6 (g : sh_G) : finF g 6 = sh_cel g mem0 6 := by
  rw [fin_lo (by decide)]; rfl
set_option maxRecDepth 20000 in
theorem fin_7 (g : sh_G) : finF g 7 = sh_cel g mem0 7 := by
  rw [fin_lo (by decide)]; rfl
set_option maxRecDepth 20000 in
theorem fin_8 (g : sh_G) : finF g 8 = sh_cel g mem0 8 := by
  rw [fin_lo (by decide)]; rfl
set_option maxRecDepth 20000 in
theorem fin_9 (g : sh_G) : finF g 9 = sh_cel g mem0 9 := by
  rw [fin_lo (by decide)]; rfl
set_option maxRecDepth 20000 in
theorem fin_10 (g : sh_G) : finF g 10 = sh_cel g mem0 10 := by
  rw [fin_lo (by decide)]; rfl
set_option maxRecDepth 20000 in
theorem fin_11 (g : sh_G) : finF g 11 = sh_cel g mem0 11 := by
  rw [fin_lo (by decide)]; rfl
set_option maxRecDepth 20000 in
theorem fin_12 (g : sh_G) : finF g 12 = sh_cel g mem0 12 := by
  rw [fin_lo (by decide)]; rfl
set_option maxRecDepth 20000 in
theorem fin_13 (g : sh_G) : finF g 13 = sh_cel g mem0 13 := by
  rw [fin_lo (by decide)]; rfl
set_option maxRecDepth 20000 in
theorem fin_14 (g : sh_G) : finF g 14 = sh_cel g mem0 14 := by
  rw [fin_lo (by decide)]; rfl
set_option maxRecDepth 20000 in
theorem fin_15 (g : sh_G) : finF g 15 = sh_cel g mem0 15 := by
  rw [fin_lo (by decide)]; rfl
set_option maxRecDepth 20000 in
theorem fin_16 (g : sh_G) : finF g 16 = sh_cel g mem0 16 := by
  rw [fin_lo (by decide)]; rfl
set_option maxRecDepth 20000 in
theorem fin_17 (g : sh_G) : finF g 17 = sh_cel g mem0 17 := by
  rw [fin_lo (by decide)]; rfl
set_option maxRecDepth 20000 in
theorem fin_18 (g : sh_G) : finF g 18 = sh_cel g mem0 18 := by
  rw [fin_lo (by decide)]; rfl
set_option maxRecDepth 20000 in
theorem fin_19 (g : sh_G) : finF g 19 = sh_cel g mem0 19 := by
  rw [fin_lo (by decide)]; rfl
set_option maxRecDepth 20000 in
theorem fin_20 (g : sh_G) : finF g 20 = sh_cel g mem0 20 := by
  rw [fin_lo (by decide)]; rfl
set_option maxRecDepth 20000 in
theorem fin_21 (g : sh_G) : finF g 21 = sh_cel g mem0 21 := by
  rw [fin_lo (by decide)]
  show Sum.inl _ = Sum.inl _
  congr 3
  show Sum.inr _ = Sum.inr _
  congr 4
  funext j
  by_cases h : j < 4
  · rw [if_pos h]
    rcases (show j = 0 ∨ j = 1 ∨ j = 2 ∨ j = 3 by omega) with rfl | rfl | rfl | rfl <;> rfl
  · rw [if_neg h]
    unfold va_up
    rw [if_neg (by omega), if_neg (by omega), if_neg (by omega), if_neg (by omega)]
set_option maxRecDepth 20000 in
theorem fin_22 (g : sh_G) : finF g 22 = sh_cel g mem0 22 := by
  rw [fin_lo (by decide)]; rfl
set_option maxRecDepth 20000 in
theorem fin_23 (g : sh_G) : finF g 23 = sh_cel g mem0 23 := by
  rw [fin_lo (by decide)]; rfl
set_option maxRecDepth 20000 in
theorem fin_24 (g : sh_G) : finF g 24 = sh_cel g mem0 24 := by
  rw [fin_lo (by decide)]; rfl
set_option maxRecDepth 20000 in
theorem fin_25 (g : sh_G) : finF g 25 = sh_cel g mem0 25 := by
  rw [fin_lo (by decide)]; rfl
set_option maxRecDepth 20000 in
theorem fin_26 (g : sh_G) : finF g 26 = sh_cel g mem0 26 := by
  rw [fin_lo (by decide)]; rfl
set_option maxRecDepth 20000 in
theorem fin_27 (g : sh_G) : finF g 27 = sh_cel g mem0 27 := by
  rw [fin_lo (by decide)]; rfl
set_option maxRecDepth 20000 in
theorem fin_28 (g : sh_G) : finF g 28 = sh_cel g mem0 28 := by
  rw [fin_lo (by decide)]; rfl
set_option maxRecDepth 20000 in
theorem fin_29 (g : sh_G) : finF g 29 = sh_cel g mem0 29 := by
  rw [fin_lo (by decide)]; rfl
set_option maxRecDepth 20000 in
theorem fin_30 (g : sh_G) : finF g 30 = sh_cel g mem0 30 := by
  rw [fin_lo (by decide)]; rfl
set_option maxRecDepth 20000 in
theorem fin_31 (g : sh_G) : finF g 31 = sh_cel g mem0 31 := by
  rw [fin_lo (by decide)]; rfl
set_option maxRecDepth 20000 in
theorem fin_32 (g : sh_G) : finF g 32 = sh_cel g mem0 32 := by
  rw [fin_lo (by decide)]; rfl
set_option maxRecDepth 20000 in
theorem fin_33 (g : sh_G) : finF g 33 = sh_cel g mem0 33 := by
  rw [fin_lo (by decide)]; rfl
set_option maxRecDepth 20000 in
theorem fin_34 (g : sh_G) : finF g 34 = sh_cel g mem0 34 := by
  rw [fin_lo (by decide)]; rfl
set_option maxRecDepth 20000 in
theorem fin_35 (g : sh_G) : finF g 35 = sh_cel g mem0 35 := by
  rw [fin_lo (by decide)]; rfl
set_option maxRecDepth 20000 in
theorem fin_36 (g : sh_G) : finF g 36 = sh_cel g mem0 36 := by
  rw [fin_lo (by decide)]; rfl
set_option maxRecDepth 20000 in
theorem fin_37 (g : sh_G) : finF g 37 = sh_cel g mem0 37 := by
  rw [fin_lo (by decide)]; rfl
set_option maxRecDepth 20000 in
theorem fin_38 (g : sh_G) : finF g 38 = sh_cel g mem0 38 := by
  rw [fin_lo (by decide)]; rfl
set_option maxRecDepth 20000 in
theorem fin_39 (g : sh_G) : finF g 39 = sh_cel g mem0 39 := by
  rw [fin_lo (by decide)]; rfl
set_option maxRecDepth 20000 in
theorem fin_40 (g : sh_G) : finF g 40 = sh_cel g mem0 40 := by
  rw [fin_lo (by decide)]; rfl
set_option maxRecDepth 20000 in
theorem fin_41 (g : sh_G) : finF g 41 = sh_cel g mem0 41 := by
  rw [fin_lo (by decide)]; rfl
set_option maxRecDepth 20000 in
theorem fin_42 (g : sh_G) : finF g 42 = sh_cel g mem0 42 := by
  rw [fin_lo (by decide)]; rfl
set_option maxRecDepth 20000 in
theorem fin_43 (g : sh_G) : finF g 43 = sh_cel g mem0 43 := by
  rw [fin_lo (by decide)]; rfl
set_option maxRecDepth 20000 in
theorem fin_44 (g : sh_G) : finF g 44 = sh_cel g mem0 44 := by
  rw [fin_lo (by decide)]; rfl
set_option maxRecDepth 20000 in
theorem fin_45 (g : sh_G) : finF g 45 = sh_cel g mem0 45 := by
  rw [fin_lo (by decide)]; rfl
set_option maxRecDepth 20000 in
theorem fin_46 (g : sh_G) : finF g 46 = sh_cel g mem0 46 := by
  rw [fin_lo (by decide)]; rfl
set_option maxRecDepth 20000 in
theorem fin_47 (g : sh_G) : finF g 47 = sh_cel g mem0 47 := by
  rw [fin_lo (by decide)]; rfl
set_option maxRecDepth 20000 in
theorem fin_48 (g : sh_G) : finF g 48 = sh_cel g mem0 48 := by
  rw [fin_lo (by decide)]; rfl
set_option maxRecDepth 20000 in
theorem fin_49 (g : sh_G) : finF g 49 = sh_cel g mem0 49 := by
  rw [fin_lo (by decide)]; rfl
set_option maxRecDepth 20000 in
theorem fin_50 (g : sh_G) : finF g 50 = sh_cel g mem0 50 := by
  rw [fin_lo (by decide)]; rfl
set_option maxRecDepth 20000 in
theorem fin_51 (g : sh_G) : finF g 51 = sh_cel g mem0 51 := by
  rw [fin_lo (by decide)]; rfl
set_option maxRecDepth 20000 in
theorem fin_52 (g : sh_G) : finF g 52 = sh_cel g mem0 52 := by
  rw [fin_lo (by decide)]; rfl
set_option maxRecDepth 20000 in
theorem fin_53 (g : sh_G) : finF g 53 = sh_cel g mem0 53 := by
  rw [fin_lo (by decide)]; rfl
set_option maxRecDepth 20000 in
theorem fin_54 (g : sh_G) : finF g 54 = sh_cel g mem0 54 := by
  rw [fin_lo (by decide)]; rfl
set_option maxRecDepth 20000 in
theorem fin_55 (g : sh_G) : finF g 55 = sh_cel g mem0 55 := by
  rw [fin_lo (by decide)]; rfl
set_option maxRecDepth 20000 in
theorem fin_56 (g : sh_G) : finF g 56 = sh_cel g mem0 56 := by
  rw [fin_lo (by decide)]; rfl
set_option maxRecDepth 20000 in
theorem fin_57 (g : sh_G) : finF g 57 = sh_cel g mem0 57 := by
  rw [fin_lo (by decide)]; rfl
set_option maxRecDepth 20000 in
theorem fin_58 (g : sh_G) : finF g 58 = sh_cel g mem0 58 := by
  rw [fin_lo (by decide)]; rfl
set_option maxRecDepth 20000 in
theorem fin_59 (g : sh_G) : finF g 59 = sh_cel g mem0 59 := by
  rw [fin_lo (by decide)]; rfl
set_option maxRecDepth 20000 in
theorem fin_60 (g : sh_G) : finF g 60 = sh_cel g mem0 60 := by
  rw [fin_lo (by decide)]; rfl
set_option maxRecDepth 20000 in
theorem fin_61 (g : sh_G) : finF g 61 = sh_cel g mem0 61 := by
  rw [fin_lo (by decide)]; rfl
set_option maxRecDepth 20000 in
theorem fin_62 (g : sh_G) : finF g 62 = sh_cel g mem0 62 := by
  rw [fin_lo (by decide)]; rfl
set_option maxRecDepth 20000 in
theorem fin_63 (g : sh_G) : finF g 63 = sh_cel g mem0 63 := by
  rw [fin_lo (by decide)]; rfl
set_option maxRecDepth 20000 in
theorem fin_64 (g : sh_G) : finF g 64 = sh_cel g mem0 64 := by
  rw [fin_lo (by decide)]; rfl
set_option maxRecDepth 20000 in
theorem fin_65 (g : sh_G) : finF g 65 = sh_cel g mem0 65 := by
  rw [fin_lo (by decide)]; rfl
set_option maxRecDepth 20000 in
theorem fin_66 (g : sh_G) : finF g 66 = sh_cel g mem0 66 := by
  rw [fin_lo (by decide)]; rfl
set_option maxRecDepth 20000 in
theorem fin_67 (g : sh_G) : finF g 67 = sh_cel g mem0 67 := by
  rw [fin_lo (by decide)]; rfl
set_option maxRecDepth 20000 in
theorem fin_68 (g : sh_G) : finF g 68 = sh_cel g mem0 68 := by
  rw [fin_lo (by decide)]; rfl
set_option maxRecDepth 20000 in
theorem fin_69 (g : sh_G) : finF g 69 = sh_cel g mem0 69 := by
  rw [fin_lo (by decide)]; rfl
set_option maxRecDepth 20000 in
theorem fin_70 (g : sh_G) : finF g 70 = sh_cel g mem0 70 := by
  rw [fin_lo (by decide)]; rfl
set_option maxRecDepth 20000 in
theorem fin_71 (g : sh_G) : finF g 71 = sh_cel g mem0 71 := by
  rw [fin_lo (by decide)]; rfl
set_option maxRecDepth 20000 in
theorem fin_72 (g : sh_G) : finF g 72 = sh_cel g mem0 72 := by
  rw [fin_lo (by decide)]; rfl
set_option maxRecDepth 20000 in
theorem fin_73 (g : sh_G) : finF g 73 = sh_cel g mem0 73 := by
  rw [fin_lo (by decide)]; rfl
set_option maxRecDepth 20000 in
theorem fin_74 (g : sh_G) : finF g 74 = sh_cel g mem0 74 := by
  rw [fin_lo (by decide)]; rfl
set_option maxRecDepth 20000 in
theorem fin_75 (g : sh_G) : finF g 75 = sh_cel g mem0 75 := by
  rw [fin_lo (by decide)]; rfl
set_option maxRecDepth 20000 in
theorem fin_76 (g : sh_G) : finF g 76 = sh_cel g mem0 76 := by
  rw [fin_lo (by decide)]; rfl
set_option maxRecDepth 20000 in
theorem fin_77 (g : sh_G) : finF g 77 = sh_cel g mem0 77 := by
  rw [fin_lo (by decide)]; rfl
set_option maxRecDepth 20000 in
theorem fin_78 (g : sh_G) : finF g 78 = sh_cel g mem0 78 := by
  rw [fin_lo (by decide)]; rfl
set_option maxRecDepth 20000 in
theorem fin_79 (g : sh_G) : finF g 79 = sh_cel g mem0 79 := by
  rw [fin_lo (by decide)]; rfl
set_option maxRecDepth 20000 in
theorem fin_80 (g : sh_G) : finF g 80 = sh_cel g mem0 80 := by
  rw [fin_lo (by decide)]; rfl
set_option maxRecDepth 20000 in
theorem fin_81 (g : sh_G) : finF g 81 = sh_cel g mem0 81 := by
  rw [fin_lo (by decide)]; rfl
set_option maxRecDepth 20000 in
theorem fin_82 (g : sh_G) : finF g 82 = sh_cel g mem0 82 := by
  rw [fin_lo (by decide)]; rfl
set_option maxRecDepth 20000 in
theorem fin_83 (g : sh_G) : finF g 83 = sh_cel g mem0 83 := by
  rw [fin_lo (by decide)]; rfl
set_option maxRecDepth 20000 in
theorem fin_84 (g : sh_G) : finF g 84 = sh_cel g mem0 84 := by
  rw [fin_lo (by decide)]; rfl
set_option maxRecDepth 20000 in
theorem fin_85 (g : sh_G) : finF g 85 = sh_cel g mem0 85 := by
  rw [fin_lo (by decide)]; rfl
set_option maxRecDepth 20000 in
theorem fin_86 (g : sh_G) : finF g 86 = sh_cel g mem0 86 := by
  rw [fin_lo (by decide)]; rfl
set_option maxRecDepth 20000 in
theorem fin_87 (g : sh_G) : finF g 87 = sh_cel g mem0 87 := by
  rw [fin_lo (by decide)]; rfl
set_option maxRecDepth 20000 in
theorem fin_88 (g : sh_G) : finF g 88 = sh_cel g mem0 88 := by
  rw [fin_lo (by decide)]; rfl
set_option maxRecDepth 20000 in
theorem fin_89 (g : sh_G) : finF g 89 = sh_cel g mem0 89 := by
  rw [fin_lo (by decide)]; rfl
set_option maxRecDepth 20000 in
theorem fin_90 (g : sh_G) : finF g 90 = sh_cel g mem0 90 := by
  rw [fin_lo (by decide)]; rfl
set_option maxRecDepth 20000 in
theorem fin_91 (g : sh_G) : finF g 91 = sh_cel g mem0 91 := by
  rw [fin_lo (by decide)]; rfl
set_option maxRecDepth 20000 in
theorem fin_92 (g : sh_G) : finF g 92 = sh_cel g mem0 92 := by
  rw [fin_lo (by decide)]; rfl
set_option maxRecDepth 20000 in
theorem fin_93 (g : sh_G) : finF g 93 = sh_cel g mem0 93 := by
  rw [fin_lo (by decide)]; rfl
set_option maxRecDepth 20000 in
theorem fin_94 (g : sh_G) : finF g 94 = sh_cel g mem0 94 := by
  rw [fin_lo (by decide)]; rfl
set_option maxRecDepth 20000 in
theorem fin_95 (g : sh_G) : finF g 95 = sh_cel g mem0 95 := by
  rw [fin_lo (by decide)]; rfl
theorem fin_96 (g : sh_G) : finF g 96 = sh_cel g mem0 96 := by
  show Sum.inr (12, mfs42 g) = _
  rw [mfsX42]; rfl
theorem fin_97 (g : sh_G) : finF g 97 = sh_cel g mem0 97 := rfl
theorem fin_98 (g : sh_G) : finF g 98 = sh_cel g mem0 98 := rfl
theorem fin_99 (g : sh_G) : finF g 99 = sh_cel g mem0 99 := rfl
theorem fin_100 (g : sh_G) : finF g 100 = sh_cel g mem0 100 := rfl
theorem fin_101 (g : sh_G) : finF g 101 = sh_cel g mem0 101 := rfl
theorem fin_102 (g : sh_G) : finF g 102 = sh_cel g mem0 102 := rfl
theorem fin_103 (g : sh_G) : finF g 103 = sh_cel g mem0 103 := rfl
theorem fin_104 (g : sh_G) : finF g 104 = sh_cel g mem0 104 := rfl
theorem fin_105 (g : sh_G) : finF g 105 = sh_cel g mem0 105 := rfl
theorem fin_106 (g : sh_G) : finF g 106 = sh_cel g mem0 106 := rfl
theorem fin_107 (g : sh_G) : finF g 107 = sh_cel g mem0 107 := rfl
theorem fin_108 (g : sh_G) : finF g 108 = sh_cel g mem0 108 := rfl
theorem fin_109 (g : sh_G) : finF g 109 = sh_cel g mem0 109 := rfl
theorem fin_110 (g : sh_G) : finF g 110 = sh_cel g mem0 110 := rfl
theorem fin_111 (g : sh_G) : finF g 111 = sh_cel g mem0 111 := rfl
theorem fin_112 (g : sh_G) : finF g 112 = sh_cel g mem0 112 := rfl
theorem fin_113 (g : sh_G) : finF g 113 = sh_cel g mem0 113 := rfl
theorem fin_114 (g : sh_G) : finF g 114 = sh_cel g mem0 114 := rfl
theorem fin_115 (g : sh_G) : finF g 115 = sh_cel g mem0 115 := rfl
theorem fin_116 (g : sh_G) : finF g 116 = sh_cel g mem0 116 := rfl
theorem fin_117 (g : sh_G) : finF g 117 = sh_cel g mem0 117 := rfl
theorem fin_118 (g : sh_G) : finF g 118 = sh_cel g mem0 118 := rfl
theorem fin_119 (g : sh_G) : finF g 119 = sh_cel g mem0 119 := rfl
theorem fin_120 (g : sh_G) : finF g 120 = sh_cel g mem0 120 := rfl
theorem fin_121 (g : sh_G) : finF g 121 = sh_cel g mem0 121 := rfl
theorem fin_122 (g : sh_G) : finF g 122 = sh_cel g mem0 122 := rfl
theorem fin_123 (g : sh_G) : finF g 123 = sh_cel g mem0 123 := rfl
theorem fin_124 (g : sh_G) : finF g 124 = sh_cel g mem0 124 := rfl
theorem fin_125 (g : sh_G) : finF g 125 = sh_cel g mem0 125 := rfl
theorem fin_126 (g : sh_G) : finF g 126 = sh_cel g mem0 126 := rfl
theorem fin_127 (g : sh_G) : finF g 127 = sh_cel g mem0 127 := rfl
theorem fin_128 (g : sh_G) : finF g 128 = sh_cel g mem0 128 := rfl
theorem fin_129 (g : sh_G) : finF g 129 = sh_cel g mem0 129 := rfl
theorem fin_130 (g : sh_G) : finF g 130 = sh_cel g mem0 130 := rfl
theorem fin_131 (g : sh_G) : finF g 131 = sh_cel g mem0 131 := rfl
theorem fin_132 (g : sh_G) : finF g 132 = sh_cel g mem0 132 := rfl
theorem fin_133 (g : sh_G) : finF g 133 = sh_cel g mem0 133 := rfl
theorem fin_134 (g : sh_G) : finF g 134 = sh_cel g mem0 134 := rfl
theorem fin_135 (g : sh_G) : finF g 135 = sh_cel g mem0 135 := rfl
theorem fin_136 (g : sh_G) : finF g 136 = sh_cel g mem0 136 := rfl
theorem fin_137 (g : sh_G) : finF g 137 = sh_cel g mem0 137 := rfl
theorem fin_138 (g : sh_G) : finF g 138 = sh_cel g mem0 138 := rfl
theorem fin_139 (g : sh_G) : finF g 139 = sh_cel g mem0 139 := rfl
theorem fin_ok (g : sh_G) (a : Nat) (h1 : 1 ≤ a) (h2 : a ≤ 139) : finF g a = sh_cel g mem0 a := by
  by_cases c70 : a ≤ 70
  · by_cases c35 : a ≤ 35
    · by_cases c18 : a ≤ 18
      · by_cases c9 : a ≤ 9
        · by_cases c5 : a ≤ 5
          · by_cases c3 : a ≤ 3
            · by_cases c2 : a ≤ 2
              · by_cases c1 : a ≤ 1
                · obtain rfl : a = 1 := by omega
                  exact fin_1 g
                · obtain rfl : a = 2 := by omega
                  exact fin_2 g
              · obtain rfl : a = 3 := by omega
                exact fin_3 g
            · by_cases c4 : a ≤ 4
              · obtain rfl : a = 4 := by omega
                exact fin_4 g
              · obtain rfl : a = 5 := by omega
                exact fin_5 g
          · by_cases c7 : a ≤ 7
            · by_cases c6 : a ≤ 6
              · obtain rfl : a = 6 := by omega
                exact fin_6 g
              · obtain rfl : a = 7 := by omega
                exact fin_7 g
            · by_cases c8 : a ≤ 8
              · obtain rfl : a = 8 := by omega
                exact fin_8 g
              · obtain rfl : a = 9 := by omega
                exact fin_9 g
        · by_cases c14 : a ≤ 14
          · by_cases c12 : a ≤ 12
            · by_cases c11 : a ≤ 11
              · by_cases c10 : a ≤ 10
                · obtain rfl : a = 10 := by omega
                  exact fin_10 g
                · obtain rfl : a = 11 := by omega
                  exact fin_11 g
              · obtain rfl : a = 12 := by omega
                exact fin_12 g
            · by_cases c13 : a ≤ 13
              · obtain rfl : a = 13 := by omega
                exact fin_13 g
              · obtain rfl : a = 14 := by omega
                exact fin_14 g
          · by_cases c16 : a ≤ 16
            · by_cases c15 : a ≤ 15
              · obtain rfl : a = 15 := by omega
                exact fin_15 g
              · obtain rfl : a = 16 := by omega
                exact fin_16 g
            · by_cases c17 : a ≤ 17
              · obtain rfl : a = 17 := by omega
                exact fin_17 g
              · obtain rfl : a = 18 := by omega
                exact fin_18 g
      · by_cases c27 : a ≤ 27
        · by_cases c23 : a ≤ 23
          · by_cases c21 : a ≤ 21
            · by_cases c20 : a ≤ 20
              · by_cases c19 : a ≤ 19
                · obtain rfl : a = 19 := by omega
                  exact fin_19 g
                · obtain rfl : a = 20 := by omega
                  exact fin_20 g
              · obtain rfl : a = 21 := by omega
                exact fin_21 g
            · by_cases c22 : a ≤ 22
              · obtain rfl : a = 22 := by omega
                exact fin_22 g
              · obtain rfl : a = 23 := by omega
                exact fin_23 g
          · by_cases c25 : a ≤ 25
            · by_cases c24 : a ≤ 24
              · obtain rfl : a = 24 := by omega
                exact fin_24 g
              · obtain rfl : a = 25 := by omega
                exact fin_25 g
            · by_cases c26 : a ≤ 26
              · obtain rfl : a = 26 := by omega
                exact fin_26 g
              · obtain rfl : a = 27 := by omega
                exact fin_27 g
        · by_cases c31 : a ≤ 31
          · by_cases c29 : a ≤ 29
            · by_cases c28 : a ≤ 28
              · obtain rfl : a = 28 := by omega
                exact fin_28 g
              · obtain rfl : a = 29 := by omega
                exact fin_29 g
            · by_cases c30 : a ≤ 30
              · obtain rfl : a = 30 := by omega
                exact fin_30 g
              · obtain rfl : a = 31 := by omega
                exact fin_31 g
          · by_cases c33 : a ≤ 33
            · by_cases c32 : a ≤ 32
              · obtain rfl : a = 32 := by omega
                exact fin_32 g
              · obtain rfl : a = 33 := by omega
                exact fin_33 g
            · by_cases c34 : a ≤ 34
              · obtain rfl : a = 34 := by omega
                exact fin_34 g
              · obtain rfl : a = 35 := by omega
                exact fin_35 g
    · by_cases c53 : a ≤ 53
      · by_cases c44 : a ≤ 44
        · by_cases c40 : a ≤ 40
          · by_cases c38 : a ≤ 38
            · by_cases c37 : a ≤ 37
              · by_cases c36 : a ≤ 36
                · obtain rfl : a = 36 := by omega
                  exact fin_36 g
                · obtain rfl : a = 37 := by omega
                  exact fin_37 g
              · obtain rfl : a = 38 := by omega
                exact fin_38 g
            · by_cases c39 : a ≤ 39
              · obtain rfl : a = 39 := by omega
                exact fin_39 g
              · obtain rfl : a = 40 := by omega
                exact fin_40 g
          · by_cases c42 : a ≤ 42
            · by_cases c41 : a ≤ 41
              · obtain rfl : a = 41 := by omega
                exact fin_41 g
              · obtain rfl : a = 42 := by omega
                exact fin_42 g
            · by_cases c43 : a ≤ 43
              · obtain rfl : a = 43 := by omega
                exact fin_43 g
              · obtain rfl : a = 44 := by omega
                exact fin_44 g
        · by_cases c49 : a ≤ 49
          · by_cases c47 : a ≤ 47
            · by_cases c46 : a ≤ 46
              · by_cases c45 : a ≤ 45
                · obtain rfl : a = 45 := by omega
                  exact fin_45 g
                · obtain rfl : a = 46 := by omega
                  exact fin_46 g
              · obtain rfl : a = 47 := by omega
                exact fin_47 g
            · by_cases c48 : a ≤ 48
              · obtain rfl : a = 48 := by omega
                exact fin_48 g
              · obtain rfl : a = 49 := by omega
                exact fin_49 g
          · by_cases c51 : a ≤ 51
            · by_cases c50 : a ≤ 50
              · obtain rfl : a = 50 := by omega
                exact fin_50 g
              · obtain rfl : a = 51 := by omega
                exact fin_51 g
            · by_cases c52 : a ≤ 52
              · obtain rfl : a = 52 := by omega
                exact fin_52 g
              · obtain rfl : a = 53 := by omega
                exact fin_53 g
      · by_cases c62 : a ≤ 62
        · by_cases c58 : a ≤ 58
          · by_cases c56 : a ≤ 56
            · by_cases c55 : a ≤ 55
              · by_cases c54 : a ≤ 54
                · obtain rfl : a = 54 := by omega
                  exact fin_54 g
                · obtain rfl : a = 55 := by omega
                  exact fin_55 g
              · obtain rfl : a = 56 := by omega
                exact fin_56 g
            · by_cases c57 : a ≤ 57
              · obtain rfl : a = 57 := by omega
                exact fin_57 g
              · obtain rfl : a = 58 := by omega
                exact fin_58 g
          · by_cases c60 : a ≤ 60
            · by_cases c59 : a ≤ 59
              · obtain rfl : a = 59 := by omega
                exact fin_59 g
              · obtain rfl : a = 60 := by omega
                exact fin_60 g
            · by_cases c61 : a ≤ 61
              · obtain rfl : a = 61 := by omega
                exact fin_61 g
              · obtain rfl : a = 62 := by omega
                exact fin_62 g
        · by_cases c66 : a ≤ 66
          · by_cases c64 : a ≤ 64
            · by_cases c63 : a ≤ 63
              · obtain rfl : a = 63 := by omega
                exact fin_63 g
              · obtain rfl : a = 64 := by omega
                exact fin_64 g
            · by_cases c65 : a ≤ 65
              · obtain rfl : a = 65 := by omega
                exact fin_65 g
              · obtain rfl : a = 66 := by omega
                exact fin_66 g
          · by_cases c68 : a ≤ 68
            · by_cases c67 : a ≤ 67
              · obtain rfl : a = 67 := by omega
                exact fin_67 g
              · obtain rfl : a = 68 := by omega
                exact fin_68 g
            · by_cases c69 : a ≤ 69
              · obtain rfl : a = 69 := by omega
                exact fin_69 g
              · obtain rfl : a = 70 := by omega
                exact fin_70 g
  · by_cases c105 : a ≤ 105
    · by_cases c88 : a ≤ 88
      · by_cases c79 : a ≤ 79
        · by_cases c75 : a ≤ 75
          · by_cases c73 : a ≤ 73
            · by_cases c72 : a ≤ 72
              · by_cases c71 : a ≤ 71
                · obtain rfl : a = 71 := by omega
                  exact fin_71 g
                · obtain rfl : a = 72 := by omega
                  exact fin_72 g
              · obtain rfl : a = 73 := by omega
                exact fin_73 g
            · by_cases c74 : a ≤ 74
              · obtain rfl : a = 74 := by omega
                exact fin_74 g
              · obtain rfl : a = 75 := by omega
                exact fin_75 g
          · by_cases c77 : a ≤ 77
            · by_cases c76 : a ≤ 76
              · obtain rfl : a = 76 := by omega
                exact fin_76 g
              · obtain rfl : a = 77 := by omega
                exact fin_77 g
            · by_cases c78 : a ≤ 78
              · obtain rfl : a = 78 := by omega
                exact fin_78 g
              · obtain rfl : a = 79 := by omega
                exact fin_79 g
        · by_cases c84 : a ≤ 84
          · by_cases c82 : a ≤ 82
            · by_cases c81 : a ≤ 81
              · by_cases c80 : a ≤ 80
                · obtain rfl : a = 80 := by omega
                  exact fin_80 g
                · obtain rfl : a = 81 := by omega
                  exact fin_81 g
              · obtain rfl : a = 82 := by omega
                exact fin_82 g
            · by_cases c83 : a ≤ 83
              · obtain rfl : a = 83 := by omega
                exact fin_83 g
              · obtain rfl : a = 84 := by omega
                exact fin_84 g
          · by_cases c86 : a ≤ 86
            · by_cases c85 : a ≤ 85
              · obtain rfl : a = 85 := by omega
                exact fin_85 g
              · obtain rfl : a = 86 := by omega
                exact fin_86 g
            · by_cases c87 : a ≤ 87
              · obtain rfl : a = 87 := by omega
                exact fin_87 g
              · obtain rfl : a = 88 := by omega
                exact fin_88 g
      · by_cases c97 : a ≤ 97
        · by_cases c93 : a ≤ 93
          · by_cases c91 : a ≤ 91
            · by_cases c90 : a ≤ 90
              · by_cases c89 : a ≤ 89
                · obtain rfl : a = 89 := by omega
                  exact fin_89 g
                · obtain rfl : a = 90 := by omega
                  exact fin_90 g
              · obtain rfl : a = 91 := by omega
                exact fin_91 g
            · by_cases c92 : a ≤ 92
              · obtain rfl : a = 92 := by omega
                exact fin_92 g
              · obtain rfl : a = 93 := by omega
                exact fin_93 g
          · by_cases c95 : a ≤ 95
            · by_cases c94 : a ≤ 94
              · obtain rfl : a = 94 := by omega
                exact fin_94 g
              · obtain rfl : a = 95 := by omega
                exact fin_95 g
            · by_cases c96 : a ≤ 96
              · obtain rfl : a = 96 := by omega
                exact fin_96 g
              · obtain rfl : a = 97 := by omega
                exact fin_97 g
        · by_cases c101 : a ≤ 101
          · by_cases c99 : a ≤ 99
            · by_cases c98 : a ≤ 98
              · obtain rfl : a = 98 := by omega
                exact fin_98 g
              · obtain rfl : a = 99 := by omega
                exact fin_99 g
            · by_cases c100 : a ≤ 100
              · obtain rfl : a = 100 := by omega
                exact fin_100 g
              · obtain rfl : a = 101 := by omega
                exact fin_101 g
          · by_cases c103 : a ≤ 103
            · by_cases c102 : a ≤ 102
              · obtain rfl : a = 102 := by omega
                exact fin_102 g
              · obtain rfl : a = 103 := by omega
                exact fin_103 g
            · by_cases c104 : a ≤ 104
              · obtain rfl : a = 104 := by omega
                exact fin_104 g
              · obtain rfl : a = 105 := by omega
                exact fin_105 g
    · by_cases c122 : a ≤ 122
      · by_cases c114 : a ≤ 114
        · by_cases c110 : a ≤ 110
          · by_cases c108 : a ≤ 108
            · by_cases c107 : a ≤ 107
              · by_cases c106 : a ≤ 106
                · obtain rfl : a = 106 := by omega
                  exact fin_106 g
                · obtain rfl : a = 107 := by omega
                  exact fin_107 g
              · obtain rfl : a = 108 := by omega
                exact fin_108 g
            · by_cases c109 : a ≤ 109
              · obtain rfl : a = 109 := by omega
                exact fin_109 g
              · obtain rfl : a = 110 := by omega
                exact fin_110 g
          · by_cases c112 : a ≤ 112
            · by_cases c111 : a ≤ 111
              · obtain rfl : a = 111 := by omega
                exact fin_111 g
              · obtain rfl : a = 112 := by omega
                exact fin_112 g
            · by_cases c113 : a ≤ 113
              · obtain rfl : a = 113 := by omega
                exact fin_113 g
              · obtain rfl : a = 114 := by omega
                exact fin_114 g
        · by_cases c118 : a ≤ 118
          · by_cases c116 : a ≤ 116
            · by_cases c115 : a ≤ 115
              · obtain rfl : a = 115 := by omega
                exact fin_115 g
              · obtain rfl : a = 116 := by omega
                exact fin_116 g
            · by_cases c117 : a ≤ 117
              · obtain rfl : a = 117 := by omega
                exact fin_117 g
              · obtain rfl : a = 118 := by omega
                exact fin_118 g
          · by_cases c120 : a ≤ 120
            · by_cases c119 : a ≤ 119
              · obtain rfl : a = 119 := by omega
                exact fin_119 g
              · obtain rfl : a = 120 := by omega
                exact fin_120 g
            · by_cases c121 : a ≤ 121
              · obtain rfl : a = 121 := by omega
                exact fin_121 g
              · obtain rfl : a = 122 := by omega
                exact fin_122 g
      · by_cases c131 : a ≤ 131
        · by_cases c127 : a ≤ 127
          · by_cases c125 : a ≤ 125
            · by_cases c124 : a ≤ 124
              · by_cases c123 : a ≤ 123
                · obtain rfl : a = 123 := by omega
                  exact fin_123 g
                · obtain rfl : a = 124 := by omega
                  exact fin_124 g
              · obtain rfl : a = 125 := by omega
                exact fin_125 g
            · by_cases c126 : a ≤ 126
              · obtain rfl : a = 126 := by omega
                exact fin_126 g
              · obtain rfl : a = 127 := by omega
                exact fin_127 g
          · by_cases c129 : a ≤ 129
            · by_cases c128 : a ≤ 128
              · obtain rfl : a = 128 := by omega
                exact fin_128 g
              · obtain rfl : a = 129 := by omega
                exact fin_129 g
            · by_cases c130 : a ≤ 130
              · obtain rfl : a = 130 := by omega
                exact fin_130 g
              · obtain rfl : a = 131 := by omega
                exact fin_131 g
        · by_cases c135 : a ≤ 135
          · by_cases c133 : a ≤ 133
            · by_cases c132 : a ≤ 132
              · obtain rfl : a = 132 := by omega
                exact fin_132 g
              · obtain rfl : a = 133 := by omega
                exact fin_133 g
            · by_cases c134 : a ≤ 134
              · obtain rfl : a = 134 := by omega
                exact fin_134 g
              · obtain rfl : a = 135 := by omega
                exact fin_135 g
          · by_cases c137 : a ≤ 137
            · by_cases c136 : a ≤ 136
              · obtain rfl : a = 136 := by omega
                exact fin_136 g
              · obtain rfl : a = 137 := by omega
                exact fin_137 g
            · by_cases c138 : a ≤ 138
              · obtain rfl : a = 138 := by omega
                exact fin_138 g
              · obtain rfl : a = 139 := by omega
                exact fin_139 g
theorem cw_fin (g : sh_G) : cw g 139 (finF g) = sh_w g mem0 := by
  unfold cw sh_w
  apply List.map_congr_left
  intro i hi
  have h2 := List.mem_range.mp hi
  rw [fin_ok g (i + 1) (by omega) (by omega), sh_ad_lo g (show i + 1 ≤ sh_nc by show i + 1 ≤ 139; omega)]
