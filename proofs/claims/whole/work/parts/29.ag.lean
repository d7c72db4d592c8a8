def Ag_years (Rel : St → St → Prop) : Prop := ∀ (a0 : Int32) (σ τ : St), Rel σ τ → ∃ (r : Int32) (σ' τ' : St), f_X7_years a0 σ = some (r, σ') ∧ f_X8_years a0 τ = some (r, τ') ∧ Rel σ' τ'
def Ag_curve (Rel : St → St → Prop) : Prop := ∀ (a0 : Int32) (a1 : Int32) (σ τ : St), Rel σ τ → ∃ (r : Int32) (σ' τ' : St), f_X7_curve a0 a1 σ = some (r, σ') ∧ f_X8_curve a0 a1 τ = some (r, τ') ∧ Rel σ' τ'
def Ag_miss (Rel : St → St → Prop) : Prop := ∀ (a0 : Int32) (a1 : Int32) (σ τ : St), Rel σ τ → ∃ (r : Int32) (σ' τ' : St), f_X7_miss a0 a1 σ = some (r, σ') ∧ f_X8_miss a0 a1 τ = some (r, τ') ∧ Rel σ' τ'
def Ag_sheet (Rel : St → St → Prop) : Prop := ∀ (a0 : Int32) (a1 : Int32) (a2 : Int32) (σ τ : St), Rel σ τ → ∃ (r : Int32) (σ' τ' : St), f_X7_sheet a0 a1 a2 σ = some (r, σ') ∧ f_X8_sheet a0 a1 a2 τ = some (r, τ') ∧ Rel σ' τ'
def Ag_write (Rel : St → St → Prop) : Prop := ∀ (a0 : Int32) (a1 : Int32) (a2 : Int32) (σ τ : St), Rel σ τ → ∃ (r : Int32) (σ' τ' : St), f_X7_write a0 a1 a2 σ = some (r, σ') ∧ f_X8_write a0 a1 a2 τ = some (r, τ') ∧ Rel σ' τ'
def Ag_lose (Rel : St → St → Prop) : Prop := ∀ (a0 : Int32) (σ τ : St), Rel σ τ → ∃ (r : Int32) (σ' τ' : St), f_X7_lose a0 σ = some (r, σ') ∧ f_X8_lose a0 τ = some (r, τ') ∧ Rel σ' τ'
def Ag_lay (Rel : St → St → Prop) : Prop := ∀ (a0 : Int32) (a1 : Int32) (a2 : Int32) (a3 : Int32) (a4 : Int32) (σ τ : St), Rel σ τ → ∃ (r : Int32) (σ' τ' : St), f_X7_lay a0 a1 a2 a3 a4 σ = some (r, σ') ∧ f_X8_lay a0 a1 a2 a3 a4 τ = some (r, τ') ∧ Rel σ' τ'
def Ag_find (Rel : St → St → Prop) : Prop := ∀ (a0 : Int32) (a1 : Int32) (σ τ : St), Rel σ τ → ∃ (r : Int32) (σ' τ' : St), f_X7_find a0 a1 σ = some (r, σ') ∧ f_X8_find a0 a1 τ = some (r, τ') ∧ Rel σ' τ'
def Ag_ring (Rel : St → St → Prop) : Prop := ∀ (a0 : Int32) (a1 : Int32) (a2 : Int32) (σ τ : St), Rel σ τ → ∃ (r : Int32) (σ' τ' : St), f_X7_ring a0 a1 a2 σ = some (r, σ') ∧ f_X8_ring a0 a1 a2 τ = some (r, τ') ∧ Rel σ' τ'
def Ag_odd (Rel : St → St → Prop) : Prop := ∀ (a0 : Int32) (a1 : Int32) (σ τ : St), Rel σ τ → ∃ (r : Int32) (σ' τ' : St), f_X7_odd a0 a1 σ = some (r, σ') ∧ f_X8_odd a0 a1 τ = some (r, τ') ∧ Rel σ' τ'
def Ag_pair (Rel : St → St → Prop) : Prop := ∀ (a0 : Int32) (a1 : Int32) (a2 : Int32) (σ τ : St), Rel σ τ → ∃ (r : Int32) (σ' τ' : St), f_X7_pair a0 a1 a2 σ = some (r, σ') ∧ f_X8_pair a0 a1 a2 τ = some (r, τ') ∧ Rel σ' τ'
def Ag_of (Rel : St → St → Prop) : Prop := ∀ (a0 : Int32) (a1 : Int32) (σ τ : St), Rel σ τ → ∃ (r : Int32) (σ' τ' : St), f_X7_of a0 a1 σ = some (r, σ') ∧ f_X8_of a0 a1 τ = some (r, τ') ∧ Rel σ' τ'
def Ag_weight (Rel : St → St → Prop) : Prop := ∀ (a0 : Int32) (a1 : Int32) (σ τ : St), Rel σ τ → ∃ (r : Int32) (σ' τ' : St), f_X7_weight a0 a1 σ = some (r, σ') ∧ f_X8_weight a0 a1 τ = some (r, τ') ∧ Rel σ' τ'
def Ag_drop (Rel : St → St → Prop) : Prop := ∀ (σ τ : St), Rel σ τ → ∃ (r : Int32) (σ' τ' : St), f_X7_drop σ = some (r, σ') ∧ f_X8_drop τ = some (r, τ') ∧ Rel σ' τ'
def Ag_feed (Rel : St → St → Prop) : Prop := ∀ (a0 : Int64) (a1 : Int32) (σ τ : St), Rel σ τ → ∃ (r : Int32) (σ' τ' : St), f_X7_feed a0 a1 σ = some (r, σ') ∧ f_X8_feed a0 a1 τ = some (r, τ') ∧ Rel σ' τ'
def Ag_text (Rel : St → St → Prop) : Prop := ∀ (σ τ : St), Rel σ τ → ∃ (r : Int32) (σ' τ' : St), f_X7_text σ = some (r, σ') ∧ f_X8_text τ = some (r, τ') ∧ Rel σ' τ'
def Ag_total (Rel : St → St → Prop) : Prop := ∀ (σ τ : St), Rel σ τ → ∃ (r : Int64) (σ' τ' : St), f_X7_total σ = some (r, σ') ∧ f_X8_total τ = some (r, τ') ∧ Rel σ' τ'
def Ag_share (Rel : St → St → Prop) : Prop := ∀ (a0 : Int32) (a1 : Int32) (σ τ : St), Rel σ τ → ∃ (r : Int64) (σ' τ' : St), f_X7_share a0 a1 σ = some (r, σ') ∧ f_X8_share a0 a1 τ = some (r, τ') ∧ Rel σ' τ'
def Ag_below (Rel : St → St → Prop) : Prop := ∀ (σ τ : St), Rel σ τ → ∃ (r : Int64) (σ' τ' : St), f_X7_below σ = some (r, σ') ∧ f_X8_below τ = some (r, τ') ∧ Rel σ' τ'
def Ag_until (Rel : St → St → Prop) : Prop := ∀ (a0 : Int32) (a1 : Int32) (σ τ : St), Rel σ τ → ∃ (r : Int64) (σ' τ' : St), f_X7_until a0 a1 σ = some (r, σ') ∧ f_X8_until a0 a1 τ = some (r, τ') ∧ Rel σ' τ'
def Ag_order (Rel : St → St → Prop) : Prop := ∀ (a0 : Int32) (a1 : Int32) (σ τ : St), Rel σ τ → ∃ (r : Int64) (σ' τ' : St), f_X7_order a0 a1 σ = some (r, σ') ∧ f_X8_order a0 a1 τ = some (r, τ') ∧ Rel σ' τ'
def Ag_apart (Rel : St → St → Prop) : Prop := ∀ (a0 : Int32) (a1 : Int32) (a2 : Int32) (σ τ : St), Rel σ τ → ∃ (r : Int64) (σ' τ' : St), f_X7_apart a0 a1 a2 σ = some (r, σ') ∧ f_X8_apart a0 a1 a2 τ = some (r, τ') ∧ Rel σ' τ'
def Ag_mean (Rel : St → St → Prop) : Prop := ∀ (a0 : Int32) (σ τ : St), Rel σ τ → ∃ (r : Int64) (σ' τ' : St), f_X7_mean a0 σ = some (r, σ') ∧ f_X8_mean a0 τ = some (r, τ') ∧ Rel σ' τ'
def Ag_best (Rel : St → St → Prop) : Prop := ∀ (a0 : Int32) (σ τ : St), Rel σ τ → ∃ (r : Int32) (σ' τ' : St), f_X7_best a0 σ = some (r, σ') ∧ f_X8_best a0 τ = some (r, τ') ∧ Rel σ' τ'
def Ag_span (Rel : St → St → Prop) : Prop := ∀ (a0 : Int32) (a1 : Int32) (σ τ : St), Rel σ τ → ∃ (r : Int32) (σ' τ' : St), f_X7_span a0 a1 σ = some (r, σ') ∧ f_X8_span a0 a1 τ = some (r, τ') ∧ Rel σ' τ'
def Ag_strange (Rel : St → St → Prop) : Prop := ∀ (a0 : Int32) (σ τ : St), Rel σ τ → ∃ (r : Int64) (σ' τ' : St), f_X7_strange a0 σ = some (r, σ') ∧ f_X8_strange a0 τ = some (r, τ') ∧ Rel σ' τ'
def Ag_without (Rel : St → St → Prop) : Prop := ∀ (a0 : Int32) (σ τ : St), Rel σ τ → ∃ (r : Int64) (σ' τ' : St), f_X7_without a0 σ = some (r, σ') ∧ f_X8_without a0 τ = some (r, τ') ∧ Rel σ' τ'
def Ag_draw (Rel : St → St → Prop) : Prop := ∀ (a0 : Int64) (σ τ : St), Rel σ τ → ∃ (r : Int64) (σ' τ' : St), f_X7_draw a0 σ = some (r, σ') ∧ f_X8_draw a0 τ = some (r, τ') ∧ Rel σ' τ'
def Ag_drawn (Rel : St → St → Prop) : Prop := ∀ (a0 : Int32) (σ τ : St), Rel σ τ → ∃ (r : Int32) (σ' τ' : St), f_X7_drawn a0 σ = some (r, σ') ∧ f_X8_drawn a0 τ = some (r, τ') ∧ Rel σ' τ'
def Ag_tell (Rel : St → St → Prop) : Prop := ∀ (a0 : Int32) (σ τ : St), Rel σ τ → ∃ (r : Int32) (σ' τ' : St), f_X7_tell a0 σ = some (r, σ') ∧ f_X8_tell a0 τ = some (r, τ') ∧ Rel σ' τ'
def Ag_number (Rel : St → St → Prop) : Prop := ∀ (σ τ : St), Rel σ τ → ∃ (r : Int64) (σ' τ' : St), f_X7_number σ = some (r, σ') ∧ f_X8_number τ = some (r, τ') ∧ Rel σ' τ'
def Ag_keep (Rel : St → St → Prop) : Prop := ∀ (σ τ : St), Rel σ τ → ∃ (r : Int32) (σ' τ' : St), f_X7_keep σ = some (r, σ') ∧ f_X8_keep τ = some (r, τ') ∧ Rel σ' τ'
def Ag_back (Rel : St → St → Prop) : Prop := ∀ (σ τ : St), Rel σ τ → ∃ (r : Int32) (σ' τ' : St), f_X7_back σ = some (r, σ') ∧ f_X8_back τ = some (r, τ') ∧ Rel σ' τ'
def Ag_bears (Rel : St → St → Prop) : Prop := ∀ (σ τ : St), Rel σ τ → ∃ (r : Int64) (σ' τ' : St), f_X7_bears σ = some (r, σ') ∧ f_X8_bears τ = some (r, τ') ∧ Rel σ' τ'
def Ag_count (Rel : St → St → Prop) : Prop := ∀ (a0 : Int32) (σ τ : St), Rel σ τ → ∃ (r : Int32) (σ' τ' : St), f_X7_count a0 σ = some (r, σ') ∧ f_X8_count_ a0 τ = some (r, τ') ∧ Rel σ' τ'
/-- every call of the system answers as the reference's does, and leaves the two in the relation -/
def AllAgree (Rel : St → St → Prop) : Prop := Ag_years Rel ∧ Ag_curve Rel ∧ Ag_miss Rel ∧ Ag_sheet Rel ∧ Ag_write Rel ∧ Ag_lose Rel ∧ Ag_lay Rel ∧ Ag_find Rel ∧ Ag_ring Rel ∧ Ag_odd Rel ∧ Ag_pair Rel ∧ Ag_of Rel ∧ Ag_weight Rel ∧ Ag_drop Rel ∧ Ag_feed Rel ∧ Ag_text Rel ∧ Ag_total Rel ∧ Ag_share Rel ∧ Ag_below Rel ∧ Ag_until Rel ∧ Ag_order Rel ∧ Ag_apart Rel ∧ Ag_mean Rel ∧ Ag_best Rel ∧ Ag_span Rel ∧ Ag_strange Rel ∧ Ag_without Rel ∧ Ag_draw Rel ∧ Ag_drawn Rel ∧ Ag_tell Rel ∧ Ag_number Rel ∧ Ag_keep Rel ∧ Ag_back Rel ∧ Ag_bears Rel ∧ Ag_count Rel
theorem ag_0 {Rel : St → St → Prop} (h : AllAgree Rel) : Ag_years Rel := h.1
theorem ag_1 {Rel : St → St → Prop} (h : AllAgree Rel) : Ag_curve Rel := h.2.1
theorem ag_2 {Rel : St → St → Prop} (h : AllAgree Rel) : Ag_miss Rel := h.2.2.1
theorem ag_3 {Rel : St → St → Prop} (h : AllAgree Rel) : Ag_sheet Rel := h.2.2.2.1
theorem ag_4 {Rel : St → St → Prop} (h : AllAgree Rel) : Ag_write Rel := h.2.2.2.2.1
theorem ag_5 {Rel : St → St → Prop} (h : AllAgree Rel) : Ag_lose Rel := h.2.2.2.2.2.1
theorem ag_6 {Rel : St → St → Prop} (h : AllAgree Rel) : Ag_lay Rel := h.2.2.2.2.2.2.1
theorem ag_7 {Rel : St → St → Prop} (h : AllAgree Rel) : Ag_find Rel := h.2.2.2.2.2.2.2.1
theorem ag_8 {Rel : St → St → Prop} (h : AllAgree Rel) : Ag_ring Rel := h.2.2.2.2.2.2.2.2.1
theorem ag_9 {Rel : St → St → Prop} (h : AllAgree Rel) : Ag_odd Rel := h.2.2.2.2.2.2.2.2.2.1
theorem ag_10 {Rel : St → St → Prop} (h : AllAgree Rel) : Ag_pair Rel := h.2.2.2.2.2.2.2.2.2.2.1
theorem ag_11 {Rel : St → St → Prop} (h : AllAgree Rel) : Ag_of Rel := h.2.2.2.2.2.2.2.2.2.2.2.1
theorem ag_12 {Rel : St → St → Prop} (h : AllAgree Rel) : Ag_weight Rel := h.2.2.2.2.2.2.2.2.2.2.2.2.1
theorem ag_13 {Rel : St → St → Prop} (h : AllAgree Rel) : Ag_drop Rel := h.2.2.2.2.2.2.2.2.2.2.2.2.2.1
theorem ag_14 {Rel : St → St → Prop} (h : AllAgree Rel) : Ag_feed Rel := h.2.2.2.2.2.2.2.2.2.2.2.2.2.2.1
theorem ag_15 {Rel : St → St → Prop} (h : AllAgree Rel) : Ag_text Rel := h.2.2.2.2.2.2.2.2.2.2.2.2.2.2.2.1
theorem ag_16 {Rel : St → St → Prop} (h : AllAgree Rel) : Ag_total Rel := h.2.2.2.2.2.2.2.2.2.2.2.2.2.2.2.2.1
theorem ag_17 {Rel : St → St → Prop} (h : AllAgree Rel) : Ag_share Rel := h.2.2.2.2.2.2.2.2.2.2.2.2.2.2.2.2.2.1
theorem ag_18 {Rel : St → St → Prop} (h : AllAgree Rel) : Ag_below Rel := h.2.2.2.2.2.2.2.2.2.2.2.2.2.2.2.2.2.2.1
theorem ag_19 {Rel : St → St → Prop} (h : AllAgree Rel) : Ag_until Rel := h.2.2.2.2.2.2.2.2.2.2.2.2.2.2.2.2.2.2.2.1
theorem ag_20 {Rel : St → St → Prop} (h : AllAgree Rel) : Ag_order Rel := h.2.2.2.2.2.2.2.2.2.2.2.2.2.2.2.2.2.2.2.2.1
theorem ag_21 {Rel : St → St → Prop} (h : AllAgree Rel) : Ag_apart Rel := h.2.2.2.2.2.2.2.2.2.2.2.2.2.2.2.2.2.2.2.2.2.1
theorem ag_22 {Rel : St → St → Prop} (h : AllAgree Rel) : Ag_mean Rel := h.2.2.2.2.2.2.2.2.2.2.2.2.2.2.2.2.2.2.2.2.2.2.1
theorem ag_23 {Rel : St → St → Prop} (h : AllAgree Rel) : Ag_best Rel := h.2.2.2.2.2.2.2.2.2.2.2.2.2.2.2.2.2.2.2.2.2.2.2.1
theorem ag_24 {Rel : St → St → Prop} (h : AllAgree Rel) : Ag_span Rel := h.2.2.2.2.2.2.2.2.2.2.2.2.2.2.2.2.2.2.2.2.2.2.2.2.1
theorem ag_25 {Rel : St → St → Prop} (h : AllAgree Rel) : Ag_strange Rel := h.2.2.2.2.2.2.2.2.2.2.2.2.2.2.2.2.2.2.2.2.2.2.2.2.2.1
theorem ag_26 {Rel : St → St → Prop} (h : AllAgree Rel) : Ag_without Rel := h.2.2.2.2.2.2.2.2.2.2.2.2.2.2.2.2.2.2.2.2.2.2.2.2.2.2.1
theorem ag_27 {Rel : St → St → Prop} (h : AllAgree Rel) : Ag_draw Rel := h.2.2.2.2.2.2.2.2.2.2.2.2.2.2.2.2.2.2.2.2.2.2.2.2.2.2.2.1
theorem ag_28 {Rel : St → St → Prop} (h : AllAgree Rel) : Ag_drawn Rel := h.2.2.2.2.2.2.2.2.2.2.2.2.2.2.2.2.2.2.2.2.2.2.2.2.2.2.2.2.1
theorem ag_29 {Rel : St → St → Prop} (h : AllAgree Rel) : Ag_tell Rel := h.2.2.2.2.2.2.2.2.2.2.2.2.2.2.2.2.2.2.2.2.2.2.2.2.2.2.2.2.2.1
theorem ag_30 {Rel : St → St → Prop} (h : AllAgree Rel) : Ag_number Rel := h.2.2.2.2.2.2.2.2.2.2.2.2.2.2.2.2.2.2.2.2.2.2.2.2.2.2.2.2.2.2.1
theorem ag_31 {Rel : St → St → Prop} (h : AllAgree Rel) : Ag_keep Rel := h.2.2.2.2.2.2.2.2.2.2.2.2.2.2.2.2.2.2.2.2.2.2.2.2.2.2.2.2.2.2.2.1
theorem ag_32 {Rel : St → St → Prop} (h : AllAgree Rel) : Ag_back Rel := h.2.2.2.2.2.2.2.2.2.2.2.2.2.2.2.2.2.2.2.2.2.2.2.2.2.2.2.2.2.2.2.2.1
theorem ag_33 {Rel : St → St → Prop} (h : AllAgree Rel) : Ag_bears Rel := h.2.2.2.2.2.2.2.2.2.2.2.2.2.2.2.2.2.2.2.2.2.2.2.2.2.2.2.2.2.2.2.2.2.1
theorem ag_34 {Rel : St → St → Prop} (h : AllAgree Rel) : Ag_count Rel := h.2.2.2.2.2.2.2.2.2.2.2.2.2.2.2.2.2.2.2.2.2.2.2.2.2.2.2.2.2.2.2.2.2.2
