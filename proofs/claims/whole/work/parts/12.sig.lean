/-! signatures; printed by wip/whole/g/gen_all.py -/
def qw_c (ka0 : Nat) (f : qm_M → Option qm_R) : qe_F := fun as m => match as with
  | [.ref a0] => qe_b (Nat.beq a0 ka0) (f m)
  | _ => none
theorem qw_c_ok {kp : pm_K} {md : pm_M} {d k : Nat} {ka0 : Nat} {f : qm_M → Option qm_R} (g : pt_M[k]? = some md) (gl : Nat.ble 1 md.2.2.1 = true) (h : ∀ (m : qm_M), qe_J kp md d (f m) 0 [(0, .ref ka0)] [] m) : ∀ as m x, qw_c ka0 f as m = some x → pm_X kp (d + 1) k as (qm_hp m) x.1 (qm_hp x.2) := by
  intro as m x e
  unfold qw_c at e
  split at e
  · obtain ⟨pa0, ga0⟩ := qe_b_some e
    have pa0 := Nat.eq_of_beq_eq_true pa0
    subst pa0
    exact pm_Xi md _ g (Nat.le_of_ble_eq_true gl) rfl (h _ _ ga0)
  · cases e
def qw_cc (ka0 : Nat) (ka1 : Nat) (f : qm_M → Option qm_R) : qe_F := fun as m => match as with
  | [.ref a0, .ref a1] => qe_b (Nat.beq a0 ka0) (qe_b (Nat.beq a1 ka1) (f m))
  | _ => none
theorem qw_cc_ok {kp : pm_K} {md : pm_M} {d k : Nat} {ka0 : Nat} {ka1 : Nat} {f : qm_M → Option qm_R} (g : pt_M[k]? = some md) (gl : Nat.ble 2 md.2.2.1 = true) (h : ∀ (m : qm_M), qe_J kp md d (f m) 0 [(0, .ref ka0), (1, .ref ka1)] [] m) : ∀ as m x, qw_cc ka0 ka1 f as m = some x → pm_X kp (d + 1) k as (qm_hp m) x.1 (qm_hp x.2) := by
  intro as m x e
  unfold qw_cc at e
  split at e
  · obtain ⟨pa0, ga0⟩ := qe_b_some e
    have pa0 := Nat.eq_of_beq_eq_true pa0
    subst pa0
    obtain ⟨pa1, ga1⟩ := qe_b_some ga0
    have pa1 := Nat.eq_of_beq_eq_true pa1
    subst pa1
    exact pm_Xi md _ g (Nat.le_of_ble_eq_true gl) rfl (h _ _ ga1)
  · cases e
def qw_ccc (ka0 : Nat) (ka1 : Nat) (ka2 : Nat) (f : qm_M → Option qm_R) : qe_F := fun as m => match as with
  | [.ref a0, .ref a1, .ref a2] => qe_b (Nat.beq a0 ka0) (qe_b (Nat.beq a1 ka1) (qe_b (Nat.beq a2 ka2) (f m)))
  | _ => none
theorem qw_ccc_ok {kp : pm_K} {md : pm_M} {d k : Nat} {ka0 : Nat} {ka1 : Nat} {ka2 : Nat} {f : qm_M → Option qm_R} (g : pt_M[k]? = some md) (gl : Nat.ble 3 md.2.2.1 = true) (h : ∀ (m : qm_M), qe_J kp md d (f m) 0 [(0, .ref ka0), (1, .ref ka1), (2, .ref ka2)] [] m) : ∀ as m x, qw_ccc ka0 ka1 ka2 f as m = some x → pm_X kp (d + 1) k as (qm_hp m) x.1 (qm_hp x.2) := by
  intro as m x e
  unfold qw_ccc at e
  split at e
  · obtain ⟨pa0, ga0⟩ := qe_b_some e
    have pa0 := Nat.eq_of_beq_eq_true pa0
    subst pa0
    obtain ⟨pa1, ga1⟩ := qe_b_some ga0
    have pa1 := Nat.eq_of_beq_eq_true pa1
    subst pa1
    obtain ⟨pa2, ga2⟩ := qe_b_some ga1
    have pa2 := Nat.eq_of_beq_eq_true pa2
    subst pa2
    exact pm_Xi md _ g (Nat.le_of_ble_eq_true gl) rfl (h _ _ ga2)
  · cases e
def qw_cci (ka0 : Nat) (ka1 : Nat) (f : Int32 → qm_M → Option qm_R) : qe_F := fun as m => match as with
  | [.ref a0, .ref a1, .int a2] => qe_b (Nat.beq a0 ka0) (qe_b (Nat.beq a1 ka1) (f a2 m))
  | _ => none
theorem qw_cci_ok {kp : pm_K} {md : pm_M} {d k : Nat} {ka0 : Nat} {ka1 : Nat} {f : Int32 → qm_M → Option qm_R} (g : pt_M[k]? = some md) (gl : Nat.ble 3 md.2.2.1 = true) (h : ∀ (a2 : Int32) (m : qm_M), qe_J kp md d (f a2 m) 0 [(0, .ref ka0), (1, .ref ka1), (2, .int a2)] [] m) : ∀ as m x, qw_cci ka0 ka1 f as m = some x → pm_X kp (d + 1) k as (qm_hp m) x.1 (qm_hp x.2) := by
  intro as m x e
  unfold qw_cci at e
  split at e
  · obtain ⟨pa0, ga0⟩ := qe_b_some e
    have pa0 := Nat.eq_of_beq_eq_true pa0
    subst pa0
    obtain ⟨pa1, ga1⟩ := qe_b_some ga0
    have pa1 := Nat.eq_of_beq_eq_true pa1
    subst pa1
    exact pm_Xi md _ g (Nat.le_of_ble_eq_true gl) rfl (h _ _ _ ga1)
  · cases e
def qw_ccii (ka0 : Nat) (ka1 : Nat) (f : Int32 → Int32 → qm_M → Option qm_R) : qe_F := fun as m => match as with
  | [.ref a0, .ref a1, .int a2, .int a3] => qe_b (Nat.beq a0 ka0) (qe_b (Nat.beq a1 ka1) (f a2 a3 m))
  | _ => none
theorem qw_ccii_ok {kp : pm_K} {md : pm_M} {d k : Nat} {ka0 : Nat} {ka1 : Nat} {f : Int32 → Int32 → qm_M → Option qm_R} (g : pt_M[k]? = some md) (gl : Nat.ble 4 md.2.2.1 = true) (h : ∀ (a2 : Int32) (a3 : Int32) (m : qm_M), qe_J kp md d (f a2 a3 m) 0 [(0, .ref ka0), (1, .ref ka1), (2, .int a2), (3, .int a3)] [] m) : ∀ as m x, qw_ccii ka0 ka1 f as m = some x → pm_X kp (d + 1) k as (qm_hp m) x.1 (qm_hp x.2) := by
  intro as m x e
  unfold qw_ccii at e
  split at e
  · obtain ⟨pa0, ga0⟩ := qe_b_some e
    have pa0 := Nat.eq_of_beq_eq_true pa0
    subst pa0
    obtain ⟨pa1, ga1⟩ := qe_b_some ga0
    have pa1 := Nat.eq_of_beq_eq_true pa1
    subst pa1
    exact pm_Xi md _ g (Nat.le_of_ble_eq_true gl) rfl (h _ _ _ _ ga1)
  · cases e
def qw_ccl (ka0 : Nat) (ka1 : Nat) (f : Int64 → qm_M → Option qm_R) : qe_F := fun as m => match as with
  | [.ref a0, .ref a1, .long a2] => qe_b (Nat.beq a0 ka0) (qe_b (Nat.beq a1 ka1) (f a2 m))
  | _ => none
theorem qw_ccl_ok {kp : pm_K} {md : pm_M} {d k : Nat} {ka0 : Nat} {ka1 : Nat} {f : Int64 → qm_M → Option qm_R} (g : pt_M[k]? = some md) (gl : Nat.ble 4 md.2.2.1 = true) (h : ∀ (a2 : Int64) (m : qm_M), qe_J kp md d (f a2 m) 0 [(0, .ref ka0), (1, .ref ka1), (2, .long a2)] [] m) : ∀ as m x, qw_ccl ka0 ka1 f as m = some x → pm_X kp (d + 1) k as (qm_hp m) x.1 (qm_hp x.2) := by
  intro as m x e
  unfold qw_ccl at e
  split at e
  · obtain ⟨pa0, ga0⟩ := qe_b_some e
    have pa0 := Nat.eq_of_beq_eq_true pa0
    subst pa0
    obtain ⟨pa1, ga1⟩ := qe_b_some ga0
    have pa1 := Nat.eq_of_beq_eq_true pa1
    subst pa1
    exact pm_Xi md _ g (Nat.le_of_ble_eq_true gl) rfl (h _ _ _ ga1)
  · cases e
def qw_ci (ka0 : Nat) (f : Int32 → qm_M → Option qm_R) : qe_F := fun as m => match as with
  | [.ref a0, .int a1] => qe_b (Nat.beq a0 ka0) (f a1 m)
  | _ => none
theorem qw_ci_ok {kp : pm_K} {md : pm_M} {d k : Nat} {ka0 : Nat} {f : Int32 → qm_M → Option qm_R} (g : pt_M[k]? = some md) (gl : Nat.ble 2 md.2.2.1 = true) (h : ∀ (a1 : Int32) (m : qm_M), qe_J kp md d (f a1 m) 0 [(0, .ref ka0), (1, .int a1)] [] m) : ∀ as m x, qw_ci ka0 f as m = some x → pm_X kp (d + 1) k as (qm_hp m) x.1 (qm_hp x.2) := by
  intro as m x e
  unfold qw_ci at e
  split at e
  · obtain ⟨pa0, ga0⟩ := qe_b_some e
    have pa0 := Nat.eq_of_beq_eq_true pa0
    subst pa0
    exact pm_Xi md _ g (Nat.le_of_ble_eq_true gl) rfl (h _ _ _ ga0)
  · cases e
def qw_cici (ka0 : Nat) (ka2 : Nat) (f : Int32 → Int32 → qm_M → Option qm_R) : qe_F := fun as m => match as with
  | [.ref a0, .int a1, .ref a2, .int a3] => qe_b (Nat.beq a0 ka0) (qe_b (Nat.beq a2 ka2) (f a1 a3 m))
  | _ => none
theorem qw_cici_ok {kp : pm_K} {md : pm_M} {d k : Nat} {ka0 : Nat} {ka2 : Nat} {f : Int32 → Int32 → qm_M → Option qm_R} (g : pt_M[k]? = some md) (gl : Nat.ble 4 md.2.2.1 = true) (h : ∀ (a1 : Int32) (a3 : Int32) (m : qm_M), qe_J kp md d (f a1 a3 m) 0 [(0, .ref ka0), (1, .int a1), (2, .ref ka2), (3, .int a3)] [] m) : ∀ as m x, qw_cici ka0 ka2 f as m = some x → pm_X kp (d + 1) k as (qm_hp m) x.1 (qm_hp x.2) := by
  intro as m x e
  unfold qw_cici at e
  split at e
  · obtain ⟨pa0, ga0⟩ := qe_b_some e
    have pa0 := Nat.eq_of_beq_eq_true pa0
    subst pa0
    obtain ⟨pa2, ga2⟩ := qe_b_some ga0
    have pa2 := Nat.eq_of_beq_eq_true pa2
    subst pa2
    exact pm_Xi md _ g (Nat.le_of_ble_eq_true gl) rfl (h _ _ _ _ ga2)
  · cases e
def qw_cii (ka0 : Nat) (f : Int32 → Int32 → qm_M → Option qm_R) : qe_F := fun as m => match as with
  | [.ref a0, .int a1, .int a2] => qe_b (Nat.beq a0 ka0) (f a1 a2 m)
  | _ => none
theorem qw_cii_ok {kp : pm_K} {md : pm_M} {d k : Nat} {ka0 : Nat} {f : Int32 → Int32 → qm_M → Option qm_R} (g : pt_M[k]? = some md) (gl : Nat.ble 3 md.2.2.1 = true) (h : ∀ (a1 : Int32) (a2 : Int32) (m : qm_M), qe_J kp md d (f a1 a2 m) 0 [(0, .ref ka0), (1, .int a1), (2, .int a2)] [] m) : ∀ as m x, qw_cii ka0 f as m = some x → pm_X kp (d + 1) k as (qm_hp m) x.1 (qm_hp x.2) := by
  intro as m x e
  unfold qw_cii at e
  split at e
  · obtain ⟨pa0, ga0⟩ := qe_b_some e
    have pa0 := Nat.eq_of_beq_eq_true pa0
    subst pa0
    exact pm_Xi md _ g (Nat.le_of_ble_eq_true gl) rfl (h _ _ _ _ ga0)
  · cases e
def qw_ciic (ka0 : Nat) (ka3 : Nat) (f : Int32 → Int32 → qm_M → Option qm_R) : qe_F := fun as m => match as with
  | [.ref a0, .int a1, .int a2, .ref a3] => qe_b (Nat.beq a0 ka0) (qe_b (Nat.beq a3 ka3) (f a1 a2 m))
  | _ => none
theorem qw_ciic_ok {kp : pm_K} {md : pm_M} {d k : Nat} {ka0 : Nat} {ka3 : Nat} {f : Int32 → Int32 → qm_M → Option qm_R} (g : pt_M[k]? = some md) (gl : Nat.ble 4 md.2.2.1 = true) (h : ∀ (a1 : Int32) (a2 : Int32) (m : qm_M), qe_J kp md d (f a1 a2 m) 0 [(0, .ref ka0), (1, .int a1), (2, .int a2), (3, .ref ka3)] [] m) : ∀ as m x, qw_ciic ka0 ka3 f as m = some x → pm_X kp (d + 1) k as (qm_hp m) x.1 (qm_hp x.2) := by
  intro as m x e
  unfold qw_ciic at e
  split at e
  · obtain ⟨pa0, ga0⟩ := qe_b_some e
    have pa0 := Nat.eq_of_beq_eq_true pa0
    subst pa0
    obtain ⟨pa3, ga3⟩ := qe_b_some ga0
    have pa3 := Nat.eq_of_beq_eq_true pa3
    subst pa3
    exact pm_Xi md _ g (Nat.le_of_ble_eq_true gl) rfl (h _ _ _ _ ga3)
  · cases e
def qw_ciii (ka0 : Nat) (f : Int32 → Int32 → Int32 → qm_M → Option qm_R) : qe_F := fun as m => match as with
  | [.ref a0, .int a1, .int a2, .int a3] => qe_b (Nat.beq a0 ka0) (f a1 a2 a3 m)
  | _ => none
theorem qw_ciii_ok {kp : pm_K} {md : pm_M} {d k : Nat} {ka0 : Nat} {f : Int32 → Int32 → Int32 → qm_M → Option qm_R} (g : pt_M[k]? = some md) (gl : Nat.ble 4 md.2.2.1 = true) (h : ∀ (a1 : Int32) (a2 : Int32) (a3 : Int32) (m : qm_M), qe_J kp md d (f a1 a2 a3 m) 0 [(0, .ref ka0), (1, .int a1), (2, .int a2), (3, .int a3)] [] m) : ∀ as m x, qw_ciii ka0 f as m = some x → pm_X kp (d + 1) k as (qm_hp m) x.1 (qm_hp x.2) := by
  intro as m x e
  unfold qw_ciii at e
  split at e
  · obtain ⟨pa0, ga0⟩ := qe_b_some e
    have pa0 := Nat.eq_of_beq_eq_true pa0
    subst pa0
    exact pm_Xi md _ g (Nat.le_of_ble_eq_true gl) rfl (h _ _ _ _ _ ga0)
  · cases e
def qw_ciiii (ka0 : Nat) (f : Int32 → Int32 → Int32 → Int32 → qm_M → Option qm_R) : qe_F := fun as m => match as with
  | [.ref a0, .int a1, .int a2, .int a3, .int a4] => qe_b (Nat.beq a0 ka0) (f a1 a2 a3 a4 m)
  | _ => none
theorem qw_ciiii_ok {kp : pm_K} {md : pm_M} {d k : Nat} {ka0 : Nat} {f : Int32 → Int32 → Int32 → Int32 → qm_M → Option qm_R} (g : pt_M[k]? = some md) (gl : Nat.ble 5 md.2.2.1 = true) (h : ∀ (a1 : Int32) (a2 : Int32) (a3 : Int32) (a4 : Int32) (m : qm_M), qe_J kp md d (f a1 a2 a3 a4 m) 0 [(0, .ref ka0), (1, .int a1), (2, .int a2), (3, .int a3), (4, .int a4)] [] m) : ∀ as m x, qw_ciiii ka0 f as m = some x → pm_X kp (d + 1) k as (qm_hp m) x.1 (qm_hp x.2) := by
  intro as m x e
  unfold qw_ciiii at e
  split at e
  · obtain ⟨pa0, ga0⟩ := qe_b_some e
    have pa0 := Nat.eq_of_beq_eq_true pa0
    subst pa0
    exact pm_Xi md _ g (Nat.le_of_ble_eq_true gl) rfl (h _ _ _ _ _ _ ga0)
  · cases e
def qw_ciiiii (ka0 : Nat) (f : Int32 → Int32 → Int32 → Int32 → Int32 → qm_M → Option qm_R) : qe_F := fun as m => match as with
  | [.ref a0, .int a1, .int a2, .int a3, .int a4, .int a5] => qe_b (Nat.beq a0 ka0) (f a1 a2 a3 a4 a5 m)
  | _ => none
theorem qw_ciiiii_ok {kp : pm_K} {md : pm_M} {d k : Nat} {ka0 : Nat} {f : Int32 → Int32 → Int32 → Int32 → Int32 → qm_M → Option qm_R} (g : pt_M[k]? = some md) (gl : Nat.ble 6 md.2.2.1 = true) (h : ∀ (a1 : Int32) (a2 : Int32) (a3 : Int32) (a4 : Int32) (a5 : Int32) (m : qm_M), qe_J kp md d (f a1 a2 a3 a4 a5 m) 0 [(0, .ref ka0), (1, .int a1), (2, .int a2), (3, .int a3), (4, .int a4), (5, .int a5)] [] m) : ∀ as m x, qw_ciiiii ka0 f as m = some x → pm_X kp (d + 1) k as (qm_hp m) x.1 (qm_hp x.2) := by
  intro as m x e
  unfold qw_ciiiii at e
  split at e
  · obtain ⟨pa0, ga0⟩ := qe_b_some e
    have pa0 := Nat.eq_of_beq_eq_true pa0
    subst pa0
    exact pm_Xi md _ g (Nat.le_of_ble_eq_true gl) rfl (h _ _ _ _ _ _ _ ga0)
  · cases e
def qw_ciil (ka0 : Nat) (f : Int32 → Int32 → Int64 → qm_M → Option qm_R) : qe_F := fun as m => match as with
  | [.ref a0, .int a1, .int a2, .long a3] => qe_b (Nat.beq a0 ka0) (f a1 a2 a3 m)
  | _ => none
theorem qw_ciil_ok {kp : pm_K} {md : pm_M} {d k : Nat} {ka0 : Nat} {f : Int32 → Int32 → Int64 → qm_M → Option qm_R} (g : pt_M[k]? = some md) (gl : Nat.ble 5 md.2.2.1 = true) (h : ∀ (a1 : Int32) (a2 : Int32) (a3 : Int64) (m : qm_M), qe_J kp md d (f a1 a2 a3 m) 0 [(0, .ref ka0), (1, .int a1), (2, .int a2), (3, .long a3)] [] m) : ∀ as m x, qw_ciil ka0 f as m = some x → pm_X kp (d + 1) k as (qm_hp m) x.1 (qm_hp x.2) := by
  intro as m x e
  unfold qw_ciil at e
  split at e
  · obtain ⟨pa0, ga0⟩ := qe_b_some e
    have pa0 := Nat.eq_of_beq_eq_true pa0
    subst pa0
    exact pm_Xi md _ g (Nat.le_of_ble_eq_true gl) rfl (h _ _ _ _ _ ga0)
  · cases e
def qw_cil (ka0 : Nat) (f : Int32 → Int64 → qm_M → Option qm_R) : qe_F := fun as m => match as with
  | [.ref a0, .int a1, .long a2] => qe_b (Nat.beq a0 ka0) (f a1 a2 m)
  | _ => none
theorem qw_cil_ok {kp : pm_K} {md : pm_M} {d k : Nat} {ka0 : Nat} {f : Int32 → Int64 → qm_M → Option qm_R} (g : pt_M[k]? = some md) (gl : Nat.ble 4 md.2.2.1 = true) (h : ∀ (a1 : Int32) (a2 : Int64) (m : qm_M), qe_J kp md d (f a1 a2 m) 0 [(0, .ref ka0), (1, .int a1), (2, .long a2)] [] m) : ∀ as m x, qw_cil ka0 f as m = some x → pm_X kp (d + 1) k as (qm_hp m) x.1 (qm_hp x.2) := by
  intro as m x e
  unfold qw_cil at e
  split at e
  · obtain ⟨pa0, ga0⟩ := qe_b_some e
    have pa0 := Nat.eq_of_beq_eq_true pa0
    subst pa0
    exact pm_Xi md _ g (Nat.le_of_ble_eq_true gl) rfl (h _ _ _ _ ga0)
  · cases e
def qw_cir (ka0 : Nat) (f : Int32 → Nat → qm_M → Option qm_R) : qe_F := fun as m => match as with
  | [.ref a0, .int a1, .ref a2] => qe_b (Nat.beq a0 ka0) (f a1 a2 m)
  | _ => none
theorem qw_cir_ok {kp : pm_K} {md : pm_M} {d k : Nat} {ka0 : Nat} {f : Int32 → Nat → qm_M → Option qm_R} (g : pt_M[k]? = some md) (gl : Nat.ble 3 md.2.2.1 = true) (h : ∀ (a1 : Int32) (a2 : Nat) (m : qm_M), qe_J kp md d (f a1 a2 m) 0 [(0, .ref ka0), (1, .int a1), (2, .ref a2)] [] m) : ∀ as m x, qw_cir ka0 f as m = some x → pm_X kp (d + 1) k as (qm_hp m) x.1 (qm_hp x.2) := by
  intro as m x e
  unfold qw_cir at e
  split at e
  · obtain ⟨pa0, ga0⟩ := qe_b_some e
    have pa0 := Nat.eq_of_beq_eq_true pa0
    subst pa0
    exact pm_Xi md _ g (Nat.le_of_ble_eq_true gl) rfl (h _ _ _ _ ga0)
  · cases e
def qw_cl (ka0 : Nat) (f : Int64 → qm_M → Option qm_R) : qe_F := fun as m => match as with
  | [.ref a0, .long a1] => qe_b (Nat.beq a0 ka0) (f a1 m)
  | _ => none
theorem qw_cl_ok {kp : pm_K} {md : pm_M} {d k : Nat} {ka0 : Nat} {f : Int64 → qm_M → Option qm_R} (g : pt_M[k]? = some md) (gl : Nat.ble 3 md.2.2.1 = true) (h : ∀ (a1 : Int64) (m : qm_M), qe_J kp md d (f a1 m) 0 [(0, .ref ka0), (1, .long a1)] [] m) : ∀ as m x, qw_cl ka0 f as m = some x → pm_X kp (d + 1) k as (qm_hp m) x.1 (qm_hp x.2) := by
  intro as m x e
  unfold qw_cl at e
  split at e
  · obtain ⟨pa0, ga0⟩ := qe_b_some e
    have pa0 := Nat.eq_of_beq_eq_true pa0
    subst pa0
    exact pm_Xi md _ g (Nat.le_of_ble_eq_true gl) rfl (h _ _ _ ga0)
  · cases e
def qw_cli (ka0 : Nat) (f : Int64 → Int32 → qm_M → Option qm_R) : qe_F := fun as m => match as with
  | [.ref a0, .long a1, .int a2] => qe_b (Nat.beq a0 ka0) (f a1 a2 m)
  | _ => none
theorem qw_cli_ok {kp : pm_K} {md : pm_M} {d k : Nat} {ka0 : Nat} {f : Int64 → Int32 → qm_M → Option qm_R} (g : pt_M[k]? = some md) (gl : Nat.ble 4 md.2.2.1 = true) (h : ∀ (a1 : Int64) (a2 : Int32) (m : qm_M), qe_J kp md d (f a1 a2 m) 0 [(0, .ref ka0), (1, .long a1), (3, .int a2)] [] m) : ∀ as m x, qw_cli ka0 f as m = some x → pm_X kp (d + 1) k as (qm_hp m) x.1 (qm_hp x.2) := by
  intro as m x e
  unfold qw_cli at e
  split at e
  · obtain ⟨pa0, ga0⟩ := qe_b_some e
    have pa0 := Nat.eq_of_beq_eq_true pa0
    subst pa0
    exact pm_Xi md _ g (Nat.le_of_ble_eq_true gl) rfl (h _ _ _ _ ga0)
  · cases e
def qw_cll (ka0 : Nat) (f : Int64 → Int64 → qm_M → Option qm_R) : qe_F := fun as m => match as with
  | [.ref a0, .long a1, .long a2] => qe_b (Nat.beq a0 ka0) (f a1 a2 m)
  | _ => none
theorem qw_cll_ok {kp : pm_K} {md : pm_M} {d k : Nat} {ka0 : Nat} {f : Int64 → Int64 → qm_M → Option qm_R} (g : pt_M[k]? = some md) (gl : Nat.ble 5 md.2.2.1 = true) (h : ∀ (a1 : Int64) (a2 : Int64) (m : qm_M), qe_J kp md d (f a1 a2 m) 0 [(0, .ref ka0), (1, .long a1), (3, .long a2)] [] m) : ∀ as m x, qw_cll ka0 f as m = some x → pm_X kp (d + 1) k as (qm_hp m) x.1 (qm_hp x.2) := by
  intro as m x e
  unfold qw_cll at e
  split at e
  · obtain ⟨pa0, ga0⟩ := qe_b_some e
    have pa0 := Nat.eq_of_beq_eq_true pa0
    subst pa0
    exact pm_Xi md _ g (Nat.le_of_ble_eq_true gl) rfl (h _ _ _ _ ga0)
  · cases e
def qw_clli (ka0 : Nat) (f : Int64 → Int64 → Int32 → qm_M → Option qm_R) : qe_F := fun as m => match as with
  | [.ref a0, .long a1, .long a2, .int a3] => qe_b (Nat.beq a0 ka0) (f a1 a2 a3 m)
  | _ => none
theorem qw_clli_ok {kp : pm_K} {md : pm_M} {d k : Nat} {ka0 : Nat} {f : Int64 → Int64 → Int32 → qm_M → Option qm_R} (g : pt_M[k]? = some md) (gl : Nat.ble 6 md.2.2.1 = true) (h : ∀ (a1 : Int64) (a2 : Int64) (a3 : Int32) (m : qm_M), qe_J kp md d (f a1 a2 a3 m) 0 [(0, .ref ka0), (1, .long a1), (3, .long a2), (5, .int a3)] [] m) : ∀ as m x, qw_clli ka0 f as m = some x → pm_X kp (d + 1) k as (qm_hp m) x.1 (qm_hp x.2) := by
  intro as m x e
  unfold qw_clli at e
  split at e
  · obtain ⟨pa0, ga0⟩ := qe_b_some e
    have pa0 := Nat.eq_of_beq_eq_true pa0
    subst pa0
    exact pm_Xi md _ g (Nat.le_of_ble_eq_true gl) rfl (h _ _ _ _ _ ga0)
  · cases e
def qw_cr (ka0 : Nat) (f : Nat → qm_M → Option qm_R) : qe_F := fun as m => match as with
  | [.ref a0, .ref a1] => qe_b (Nat.beq a0 ka0) (f a1 m)
  | _ => none
theorem qw_cr_ok {kp : pm_K} {md : pm_M} {d k : Nat} {ka0 : Nat} {f : Nat → qm_M → Option qm_R} (g : pt_M[k]? = some md) (gl : Nat.ble 2 md.2.2.1 = true) (h : ∀ (a1 : Nat) (m : qm_M), qe_J kp md d (f a1 m) 0 [(0, .ref ka0), (1, .ref a1)] [] m) : ∀ as m x, qw_cr ka0 f as m = some x → pm_X kp (d + 1) k as (qm_hp m) x.1 (qm_hp x.2) := by
  intro as m x e
  unfold qw_cr at e
  split at e
  · obtain ⟨pa0, ga0⟩ := qe_b_some e
    have pa0 := Nat.eq_of_beq_eq_true pa0
    subst pa0
    exact pm_Xi md _ g (Nat.le_of_ble_eq_true gl) rfl (h _ _ _ ga0)
  · cases e
def qw_crr (ka0 : Nat) (f : Nat → Nat → qm_M → Option qm_R) : qe_F := fun as m => match as with
  | [.ref a0, .ref a1, .ref a2] => qe_b (Nat.beq a0 ka0) (f a1 a2 m)
  | _ => none
theorem qw_crr_ok {kp : pm_K} {md : pm_M} {d k : Nat} {ka0 : Nat} {f : Nat → Nat → qm_M → Option qm_R} (g : pt_M[k]? = some md) (gl : Nat.ble 3 md.2.2.1 = true) (h : ∀ (a1 : Nat) (a2 : Nat) (m : qm_M), qe_J kp md d (f a1 a2 m) 0 [(0, .ref ka0), (1, .ref a1), (2, .ref a2)] [] m) : ∀ as m x, qw_crr ka0 f as m = some x → pm_X kp (d + 1) k as (qm_hp m) x.1 (qm_hp x.2) := by
  intro as m x e
  unfold qw_crr at e
  split at e
  · obtain ⟨pa0, ga0⟩ := qe_b_some e
    have pa0 := Nat.eq_of_beq_eq_true pa0
    subst pa0
    exact pm_Xi md _ g (Nat.le_of_ble_eq_true gl) rfl (h _ _ _ _ ga0)
  · cases e
def qw_i (f : Int32 → qm_M → Option qm_R) : qe_F := fun as m => match as with
  | [.int a0] => f a0 m
  | _ => none
theorem qw_i_ok {kp : pm_K} {md : pm_M} {d k : Nat} {f : Int32 → qm_M → Option qm_R} (g : pt_M[k]? = some md) (gl : Nat.ble 1 md.2.2.1 = true) (h : ∀ (a0 : Int32) (m : qm_M), qe_J kp md d (f a0 m) 0 [(0, .int a0)] [] m) : ∀ as m x, qw_i f as m = some x → pm_X kp (d + 1) k as (qm_hp m) x.1 (qm_hp x.2) := by
  intro as m x e
  unfold qw_i at e
  split at e
  · exact pm_Xi md _ g (Nat.le_of_ble_eq_true gl) rfl (h _ _ _ e)
  · cases e
def qw_ii (f : Int32 → Int32 → qm_M → Option qm_R) : qe_F := fun as m => match as with
  | [.int a0, .int a1] => f a0 a1 m
  | _ => none
theorem qw_ii_ok {kp : pm_K} {md : pm_M} {d k : Nat} {f : Int32 → Int32 → qm_M → Option qm_R} (g : pt_M[k]? = some md) (gl : Nat.ble 2 md.2.2.1 = true) (h : ∀ (a0 : Int32) (a1 : Int32) (m : qm_M), qe_J kp md d (f a0 a1 m) 0 [(0, .int a0), (1, .int a1)] [] m) : ∀ as m x, qw_ii f as m = some x → pm_X kp (d + 1) k as (qm_hp m) x.1 (qm_hp x.2) := by
  intro as m x e
  unfold qw_ii at e
  split at e
  · exact pm_Xi md _ g (Nat.le_of_ble_eq_true gl) rfl (h _ _ _ _ e)
  · cases e
def qw_iii (f : Int32 → Int32 → Int32 → qm_M → Option qm_R) : qe_F := fun as m => match as with
  | [.int a0, .int a1, .int a2] => f a0 a1 a2 m
  | _ => none
theorem qw_iii_ok {kp : pm_K} {md : pm_M} {d k : Nat} {f : Int32 → Int32 → Int32 → qm_M → Option qm_R} (g : pt_M[k]? = some md) (gl : Nat.ble 3 md.2.2.1 = true) (h : ∀ (a0 : Int32) (a1 : Int32) (a2 : Int32) (m : qm_M), qe_J kp md d (f a0 a1 a2 m) 0 [(0, .int a0), (1, .int a1), (2, .int a2)] [] m) : ∀ as m x, qw_iii f as m = some x → pm_X kp (d + 1) k as (qm_hp m) x.1 (qm_hp x.2) := by
  intro as m x e
  unfold qw_iii at e
  split at e
  · exact pm_Xi md _ g (Nat.le_of_ble_eq_true gl) rfl (h _ _ _ _ _ e)
  · cases e
def qw_iix (f : Int32 → Int32 → qm_M → Option qm_R) : qe_F := fun as m => match as with
  | [.int a0, .int a1, .retAddr 0] => f a0 a1 m
  | _ => none
theorem qw_iix_ok {kp : pm_K} {md : pm_M} {d k : Nat} {f : Int32 → Int32 → qm_M → Option qm_R} (g : pt_M[k]? = some md) (gl : Nat.ble 3 md.2.2.1 = true) (h : ∀ (a0 : Int32) (a1 : Int32) (m : qm_M), qe_J kp md d (f a0 a1 m) 0 [(0, .int a0), (1, .int a1), (2, .retAddr 0)] [] m) : ∀ as m x, qw_iix f as m = some x → pm_X kp (d + 1) k as (qm_hp m) x.1 (qm_hp x.2) := by
  intro as m x e
  unfold qw_iix at e
  split at e
  · exact pm_Xi md _ g (Nat.le_of_ble_eq_true gl) rfl (h _ _ _ _ e)
  · cases e
def qw_l (f : Int64 → qm_M → Option qm_R) : qe_F := fun as m => match as with
  | [.long a0] => f a0 m
  | _ => none
theorem qw_l_ok {kp : pm_K} {md : pm_M} {d k : Nat} {f : Int64 → qm_M → Option qm_R} (g : pt_M[k]? = some md) (gl : Nat.ble 2 md.2.2.1 = true) (h : ∀ (a0 : Int64) (m : qm_M), qe_J kp md d (f a0 m) 0 [(0, .long a0)] [] m) : ∀ as m x, qw_l f as m = some x → pm_X kp (d + 1) k as (qm_hp m) x.1 (qm_hp x.2) := by
  intro as m x e
  unfold qw_l at e
  split at e
  · exact pm_Xi md _ g (Nat.le_of_ble_eq_true gl) rfl (h _ _ _ e)
  · cases e
def qw_li (f : Int64 → Int32 → qm_M → Option qm_R) : qe_F := fun as m => match as with
  | [.long a0, .int a1] => f a0 a1 m
  | _ => none
theorem qw_li_ok {kp : pm_K} {md : pm_M} {d k : Nat} {f : Int64 → Int32 → qm_M → Option qm_R} (g : pt_M[k]? = some md) (gl : Nat.ble 3 md.2.2.1 = true) (h : ∀ (a0 : Int64) (a1 : Int32) (m : qm_M), qe_J kp md d (f a0 a1 m) 0 [(0, .long a0), (2, .int a1)] [] m) : ∀ as m x, qw_li f as m = some x → pm_X kp (d + 1) k as (qm_hp m) x.1 (qm_hp x.2) := by
  intro as m x e
  unfold qw_li at e
  split at e
  · exact pm_Xi md _ g (Nat.le_of_ble_eq_true gl) rfl (h _ _ _ _ e)
  · cases e
def qw_lii (f : Int64 → Int32 → Int32 → qm_M → Option qm_R) : qe_F := fun as m => match as with
  | [.long a0, .int a1, .int a2] => f a0 a1 a2 m
  | _ => none
theorem qw_lii_ok {kp : pm_K} {md : pm_M} {d k : Nat} {f : Int64 → Int32 → Int32 → qm_M → Option qm_R} (g : pt_M[k]? = some md) (gl : Nat.ble 4 md.2.2.1 = true) (h : ∀ (a0 : Int64) (a1 : Int32) (a2 : Int32) (m : qm_M), qe_J kp md d (f a0 a1 a2 m) 0 [(0, .long a0), (2, .int a1), (3, .int a2)] [] m) : ∀ as m x, qw_lii f as m = some x → pm_X kp (d + 1) k as (qm_hp m) x.1 (qm_hp x.2) := by
  intro as m x e
  unfold qw_lii at e
  split at e
  · exact pm_Xi md _ g (Nat.le_of_ble_eq_true gl) rfl (h _ _ _ _ _ e)
  · cases e
def qw_ll (f : Int64 → Int64 → qm_M → Option qm_R) : qe_F := fun as m => match as with
  | [.long a0, .long a1] => f a0 a1 m
  | _ => none
theorem qw_ll_ok {kp : pm_K} {md : pm_M} {d k : Nat} {f : Int64 → Int64 → qm_M → Option qm_R} (g : pt_M[k]? = some md) (gl : Nat.ble 4 md.2.2.1 = true) (h : ∀ (a0 : Int64) (a1 : Int64) (m : qm_M), qe_J kp md d (f a0 a1 m) 0 [(0, .long a0), (2, .long a1)] [] m) : ∀ as m x, qw_ll f as m = some x → pm_X kp (d + 1) k as (qm_hp m) x.1 (qm_hp x.2) := by
  intro as m x e
  unfold qw_ll at e
  split at e
  · exact pm_Xi md _ g (Nat.le_of_ble_eq_true gl) rfl (h _ _ _ _ e)
  · cases e
def qw_lli (f : Int64 → Int64 → Int32 → qm_M → Option qm_R) : qe_F := fun as m => match as with
  | [.long a0, .long a1, .int a2] => f a0 a1 a2 m
  | _ => none
theorem qw_lli_ok {kp : pm_K} {md : pm_M} {d k : Nat} {f : Int64 → Int64 → Int32 → qm_M → Option qm_R} (g : pt_M[k]? = some md) (gl : Nat.ble 5 md.2.2.1 = true) (h : ∀ (a0 : Int64) (a1 : Int64) (a2 : Int32) (m : qm_M), qe_J kp md d (f a0 a1 a2 m) 0 [(0, .long a0), (2, .long a1), (4, .int a2)] [] m) : ∀ as m x, qw_lli f as m = some x → pm_X kp (d + 1) k as (qm_hp m) x.1 (qm_hp x.2) := by
  intro as m x e
  unfold qw_lli at e
  split at e
  · exact pm_Xi md _ g (Nat.le_of_ble_eq_true gl) rfl (h _ _ _ _ _ e)
  · cases e
def qw_lll (f : Int64 → Int64 → Int64 → qm_M → Option qm_R) : qe_F := fun as m => match as with
  | [.long a0, .long a1, .long a2] => f a0 a1 a2 m
  | _ => none
theorem qw_lll_ok {kp : pm_K} {md : pm_M} {d k : Nat} {f : Int64 → Int64 → Int64 → qm_M → Option qm_R} (g : pt_M[k]? = some md) (gl : Nat.ble 6 md.2.2.1 = true) (h : ∀ (a0 : Int64) (a1 : Int64) (a2 : Int64) (m : qm_M), qe_J kp md d (f a0 a1 a2 m) 0 [(0, .long a0), (2, .long a1), (4, .long a2)] [] m) : ∀ as m x, qw_lll f as m = some x → pm_X kp (d + 1) k as (qm_hp m) x.1 (qm_hp x.2) := by
  intro as m x e
  unfold qw_lll at e
  split at e
  · exact pm_Xi md _ g (Nat.le_of_ble_eq_true gl) rfl (h _ _ _ _ _ e)
  · cases e
def qw_llll (f : Int64 → Int64 → Int64 → Int64 → qm_M → Option qm_R) : qe_F := fun as m => match as with
  | [.long a0, .long a1, .long a2, .long a3] => f a0 a1 a2 a3 m
  | _ => none
theorem qw_llll_ok {kp : pm_K} {md : pm_M} {d k : Nat} {f : Int64 → Int64 → Int64 → Int64 → qm_M → Option qm_R} (g : pt_M[k]? = some md) (gl : Nat.ble 8 md.2.2.1 = true) (h : ∀ (a0 : Int64) (a1 : Int64) (a2 : Int64) (a3 : Int64) (m : qm_M), qe_J kp md d (f a0 a1 a2 a3 m) 0 [(0, .long a0), (2, .long a1), (4, .long a2), (6, .long a3)] [] m) : ∀ as m x, qw_llll f as m = some x → pm_X kp (d + 1) k as (qm_hp m) x.1 (qm_hp x.2) := by
  intro as m x e
  unfold qw_llll at e
  split at e
  · exact pm_Xi md _ g (Nat.le_of_ble_eq_true gl) rfl (h _ _ _ _ _ _ e)
  · cases e
def qw_r (f : Nat → qm_M → Option qm_R) : qe_F := fun as m => match as with
  | [.ref a0] => f a0 m
  | _ => none
theorem qw_r_ok {kp : pm_K} {md : pm_M} {d k : Nat} {f : Nat → qm_M → Option qm_R} (g : pt_M[k]? = some md) (gl : Nat.ble 1 md.2.2.1 = true) (h : ∀ (a0 : Nat) (m : qm_M), qe_J kp md d (f a0 m) 0 [(0, .ref a0)] [] m) : ∀ as m x, qw_r f as m = some x → pm_X kp (d + 1) k as (qm_hp m) x.1 (qm_hp x.2) := by
  intro as m x e
  unfold qw_r at e
  split at e
  · exact pm_Xi md _ g (Nat.le_of_ble_eq_true gl) rfl (h _ _ _ e)
  · cases e
def qw_ri (f : Nat → Int32 → qm_M → Option qm_R) : qe_F := fun as m => match as with
  | [.ref a0, .int a1] => f a0 a1 m
  | _ => none
theorem qw_ri_ok {kp : pm_K} {md : pm_M} {d k : Nat} {f : Nat → Int32 → qm_M → Option qm_R} (g : pt_M[k]? = some md) (gl : Nat.ble 2 md.2.2.1 = true) (h : ∀ (a0 : Nat) (a1 : Int32) (m : qm_M), qe_J kp md d (f a0 a1 m) 0 [(0, .ref a0), (1, .int a1)] [] m) : ∀ as m x, qw_ri f as m = some x → pm_X kp (d + 1) k as (qm_hp m) x.1 (qm_hp x.2) := by
  intro as m x e
  unfold qw_ri at e
  split at e
  · exact pm_Xi md _ g (Nat.le_of_ble_eq_true gl) rfl (h _ _ _ _ e)
  · cases e
def qw_rii (f : Nat → Int32 → Int32 → qm_M → Option qm_R) : qe_F := fun as m => match as with
  | [.ref a0, .int a1, .int a2] => f a0 a1 a2 m
  | _ => none
theorem qw_rii_ok {kp : pm_K} {md : pm_M} {d k : Nat} {f : Nat → Int32 → Int32 → qm_M → Option qm_R} (g : pt_M[k]? = some md) (gl : Nat.ble 3 md.2.2.1 = true) (h : ∀ (a0 : Nat) (a1 : Int32) (a2 : Int32) (m : qm_M), qe_J kp md d (f a0 a1 a2 m) 0 [(0, .ref a0), (1, .int a1), (2, .int a2)] [] m) : ∀ as m x, qw_rii f as m = some x → pm_X kp (d + 1) k as (qm_hp m) x.1 (qm_hp x.2) := by
  intro as m x e
  unfold qw_rii at e
  split at e
  · exact pm_Xi md _ g (Nat.le_of_ble_eq_true gl) rfl (h _ _ _ _ _ e)
  · cases e
def qw_riil (f : Nat → Int32 → Int32 → Int64 → qm_M → Option qm_R) : qe_F := fun as m => match as with
  | [.ref a0, .int a1, .int a2, .long a3] => f a0 a1 a2 a3 m
  | _ => none
theorem qw_riil_ok {kp : pm_K} {md : pm_M} {d k : Nat} {f : Nat → Int32 → Int32 → Int64 → qm_M → Option qm_R} (g : pt_M[k]? = some md) (gl : Nat.ble 5 md.2.2.1 = true) (h : ∀ (a0 : Nat) (a1 : Int32) (a2 : Int32) (a3 : Int64) (m : qm_M), qe_J kp md d (f a0 a1 a2 a3 m) 0 [(0, .ref a0), (1, .int a1), (2, .int a2), (3, .long a3)] [] m) : ∀ as m x, qw_riil f as m = some x → pm_X kp (d + 1) k as (qm_hp m) x.1 (qm_hp x.2) := by
  intro as m x e
  unfold qw_riil at e
  split at e
  · exact pm_Xi md _ g (Nat.le_of_ble_eq_true gl) rfl (h _ _ _ _ _ _ e)
  · cases e
def qw_riri (f : Nat → Int32 → Nat → Int32 → qm_M → Option qm_R) : qe_F := fun as m => match as with
  | [.ref a0, .int a1, .ref a2, .int a3] => f a0 a1 a2 a3 m
  | _ => none
theorem qw_riri_ok {kp : pm_K} {md : pm_M} {d k : Nat} {f : Nat → Int32 → Nat → Int32 → qm_M → Option qm_R} (g : pt_M[k]? = some md) (gl : Nat.ble 4 md.2.2.1 = true) (h : ∀ (a0 : Nat) (a1 : Int32) (a2 : Nat) (a3 : Int32) (m : qm_M), qe_J kp md d (f a0 a1 a2 a3 m) 0 [(0, .ref a0), (1, .int a1), (2, .ref a2), (3, .int a3)] [] m) : ∀ as m x, qw_riri f as m = some x → pm_X kp (d + 1) k as (qm_hp m) x.1 (qm_hp x.2) := by
  intro as m x e
  unfold qw_riri at e
  split at e
  · exact pm_Xi md _ g (Nat.le_of_ble_eq_true gl) rfl (h _ _ _ _ _ _ e)
  · cases e
def qw_rl (f : Nat → Int64 → qm_M → Option qm_R) : qe_F := fun as m => match as with
  | [.ref a0, .long a1] => f a0 a1 m
  | _ => none
theorem qw_rl_ok {kp : pm_K} {md : pm_M} {d k : Nat} {f : Nat → Int64 → qm_M → Option qm_R} (g : pt_M[k]? = some md) (gl : Nat.ble 3 md.2.2.1 = true) (h : ∀ (a0 : Nat) (a1 : Int64) (m : qm_M), qe_J kp md d (f a0 a1 m) 0 [(0, .ref a0), (1, .long a1)] [] m) : ∀ as m x, qw_rl f as m = some x → pm_X kp (d + 1) k as (qm_hp m) x.1 (qm_hp x.2) := by
  intro as m x e
  unfold qw_rl at e
  split at e
  · exact pm_Xi md _ g (Nat.le_of_ble_eq_true gl) rfl (h _ _ _ _ e)
  · cases e
def qw_rr (f : Nat → Nat → qm_M → Option qm_R) : qe_F := fun as m => match as with
  | [.ref a0, .ref a1] => f a0 a1 m
  | _ => none
theorem qw_rr_ok {kp : pm_K} {md : pm_M} {d k : Nat} {f : Nat → Nat → qm_M → Option qm_R} (g : pt_M[k]? = some md) (gl : Nat.ble 2 md.2.2.1 = true) (h : ∀ (a0 : Nat) (a1 : Nat) (m : qm_M), qe_J kp md d (f a0 a1 m) 0 [(0, .ref a0), (1, .ref a1)] [] m) : ∀ as m x, qw_rr f as m = some x → pm_X kp (d + 1) k as (qm_hp m) x.1 (qm_hp x.2) := by
  intro as m x e
  unfold qw_rr at e
  split at e
  · exact pm_Xi md _ g (Nat.le_of_ble_eq_true gl) rfl (h _ _ _ _ e)
  · cases e
def qw_rrr (f : Nat → Nat → Nat → qm_M → Option qm_R) : qe_F := fun as m => match as with
  | [.ref a0, .ref a1, .ref a2] => f a0 a1 a2 m
  | _ => none
theorem qw_rrr_ok {kp : pm_K} {md : pm_M} {d k : Nat} {f : Nat → Nat → Nat → qm_M → Option qm_R} (g : pt_M[k]? = some md) (gl : Nat.ble 3 md.2.2.1 = true) (h : ∀ (a0 : Nat) (a1 : Nat) (a2 : Nat) (m : qm_M), qe_J kp md d (f a0 a1 a2 m) 0 [(0, .ref a0), (1, .ref a1), (2, .ref a2)] [] m) : ∀ as m x, qw_rrr f as m = some x → pm_X kp (d + 1) k as (qm_hp m) x.1 (qm_hp x.2) := by
  intro as m x e
  unfold qw_rrr at e
  split at e
  · exact pm_Xi md _ g (Nat.le_of_ble_eq_true gl) rfl (h _ _ _ _ _ e)
  · cases e
def qp_c_ (ka0 : Nat) (f : qm_M → Option qm_R) : qe_P := fun vs st m => match vs, st with
  | [.ref a0], [] => qe_b (Nat.beq a0 ka0) (f m)
  | _, _ => none
theorem qp_c__ok {kp : pm_K} {md : pm_M} {d pc : Nat} {n0 : Nat} {ka0 : Nat} {f : qm_M → Option qm_R} (h : ∀ (m : qm_M), qe_J kp md d (f m) pc [(n0, .ref ka0)] [] m) : qe_BE kp md d (pc, [n0], qp_c_ ka0 f) := by
  intro vs st m x e
  dsimp only at e ⊢
  unfold qp_c_ at e
  split at e
  · obtain ⟨pa0, ga0⟩ := qe_b_some e
    have pa0 := Nat.eq_of_beq_eq_true pa0
    subst pa0
    exact h _ _ ga0
  · cases e
def qp_c_i (ka0 : Nat) (f : Int32 → qm_M → Option qm_R) : qe_P := fun vs st m => match vs, st with
  | [.ref a0], [.int s0] => qe_b (Nat.beq a0 ka0) (f s0 m)
  | _, _ => none
theorem qp_c_i_ok {kp : pm_K} {md : pm_M} {d pc : Nat} {n0 : Nat} {ka0 : Nat} {f : Int32 → qm_M → Option qm_R} (h : ∀ (s0 : Int32) (m : qm_M), qe_J kp md d (f s0 m) pc [(n0, .ref ka0)] [.int s0] m) : qe_BE kp md d (pc, [n0], qp_c_i ka0 f) := by
  intro vs st m x e
  dsimp only at e ⊢
  unfold qp_c_i at e
  split at e
  · obtain ⟨pa0, ga0⟩ := qe_b_some e
    have pa0 := Nat.eq_of_beq_eq_true pa0
    subst pa0
    exact h _ _ _ ga0
  · cases e
def qp_c_ic (ka0 : Nat) (ks1 : Nat) (f : Int32 → qm_M → Option qm_R) : qe_P := fun vs st m => match vs, st with
  | [.ref a0], [.int s0, .ref s1] => qe_b (Nat.beq a0 ka0) (qe_b (Nat.beq s1 ks1) (f s0 m))
  | _, _ => none
theorem qp_c_ic_ok {kp : pm_K} {md : pm_M} {d pc : Nat} {n0 : Nat} {ka0 : Nat} {ks1 : Nat} {f : Int32 → qm_M → Option qm_R} (h : ∀ (s0 : Int32) (m : qm_M), qe_J kp md d (f s0 m) pc [(n0, .ref ka0)] [.int s0, .ref ks1] m) : qe_BE kp md d (pc, [n0], qp_c_ic ka0 ks1 f) := by
  intro vs st m x e
  dsimp only at e ⊢
  unfold qp_c_ic at e
  split at e
  · obtain ⟨pa0, ga0⟩ := qe_b_some e
    have pa0 := Nat.eq_of_beq_eq_true pa0
    subst pa0
    obtain ⟨ps1, gs1⟩ := qe_b_some ga0
    have ps1 := Nat.eq_of_beq_eq_true ps1
    subst ps1
    exact h _ _ _ gs1
  · cases e
def qp_c_icc (ka0 : Nat) (ks1 : Nat) (ks2 : Nat) (f : Int32 → qm_M → Option qm_R) : qe_P := fun vs st m => match vs, st with
  | [.ref a0], [.int s0, .ref s1, .ref s2] => qe_b (Nat.beq a0 ka0) (qe_b (Nat.beq s1 ks1) (qe_b (Nat.beq s2 ks2) (f s0 m)))
  | _, _ => none
theorem qp_c_icc_ok {kp : pm_K} {md : pm_M} {d pc : Nat} {n0 : Nat} {ka0 : Nat} {ks1 : Nat} {ks2 : Nat} {f : Int32 → qm_M → Option qm_R} (h : ∀ (s0 : Int32) (m : qm_M), qe_J kp md d (f s0 m) pc [(n0, .ref ka0)] [.int s0, .ref ks1, .ref ks2] m) : qe_BE kp md d (pc, [n0], qp_c_icc ka0 ks1 ks2 f) := by
  intro vs st m x e
  dsimp only at e ⊢
  unfold qp_c_icc at e
  split at e
  · obtain ⟨pa0, ga0⟩ := qe_b_some e
    have pa0 := Nat.eq_of_beq_eq_true pa0
    subst pa0
    obtain ⟨ps1, gs1⟩ := qe_b_some ga0
    have ps1 := Nat.eq_of_beq_eq_true ps1
    subst ps1
    obtain ⟨ps2, gs2⟩ := qe_b_some gs1
    have ps2 := Nat.eq_of_beq_eq_true ps2
    subst ps2
    exact h _ _ _ gs2
  · cases e
def qp_cc_ (ka0 : Nat) (ka1 : Nat) (f : qm_M → Option qm_R) : qe_P := fun vs st m => match vs, st with
  | [.ref a0, .ref a1], [] => qe_b (Nat.beq a0 ka0) (qe_b (Nat.beq a1 ka1) (f m))
  | _, _ => none
theorem qp_cc__ok {kp : pm_K} {md : pm_M} {d pc : Nat} {n0 n1 : Nat} {ka0 : Nat} {ka1 : Nat} {f : qm_M → Option qm_R} (h : ∀ (m : qm_M), qe_J kp md d (f m) pc [(n0, .ref ka0), (n1, .ref ka1)] [] m) : qe_BE kp md d (pc, [n0, n1], qp_cc_ ka0 ka1 f) := by
  intro vs st m x e
  dsimp only at e ⊢
  unfold qp_cc_ at e
  split at e
  · obtain ⟨pa0, ga0⟩ := qe_b_some e
    have pa0 := Nat.eq_of_beq_eq_true pa0
    subst pa0
    obtain ⟨pa1, ga1⟩ := qe_b_some ga0
    have pa1 := Nat.eq_of_beq_eq_true pa1
    subst pa1
    exact h _ _ ga1
  · cases e
def qp_ccci_ (ka0 : Nat) (ka1 : Nat) (ka2 : Nat) (f : Int32 → qm_M → Option qm_R) : qe_P := fun vs st m => match vs, st with
  | [.ref a0, .ref a1, .ref a2, .int a3], [] => qe_b (Nat.beq a0 ka0) (qe_b (Nat.beq a1 ka1) (qe_b (Nat.beq a2 ka2) (f a3 m)))
  | _, _ => none
theorem qp_ccci__ok {kp : pm_K} {md : pm_M} {d pc : Nat} {n0 n1 n2 n3 : Nat} {ka0 : Nat} {ka1 : Nat} {ka2 : Nat} {f : Int32 → qm_M → Option qm_R} (h : ∀ (a3 : Int32) (m : qm_M), qe_J kp md d (f a3 m) pc [(n0, .ref ka0), (n1, .ref ka1), (n2, .ref ka2), (n3, .int a3)] [] m) : qe_BE kp md d (pc, [n0, n1, n2, n3], qp_ccci_ ka0 ka1 ka2 f) := by
  intro vs st m x e
  dsimp only at e ⊢
  unfold qp_ccci_ at e
  split at e
  · obtain ⟨pa0, ga0⟩ := qe_b_some e
    have pa0 := Nat.eq_of_beq_eq_true pa0
    subst pa0
    obtain ⟨pa1, ga1⟩ := qe_b_some ga0
    have pa1 := Nat.eq_of_beq_eq_true pa1
    subst pa1
    obtain ⟨pa2, ga2⟩ := qe_b_some ga1
    have pa2 := Nat.eq_of_beq_eq_true pa2
    subst pa2
    exact h _ _ _ ga2
  · cases e
def qp_cci_ (ka0 : Nat) (ka1 : Nat) (f : Int32 → qm_M → Option qm_R) : qe_P := fun vs st m => match vs, st with
  | [.ref a0, .ref a1, .int a2], [] => qe_b (Nat.beq a0 ka0) (qe_b (Nat.beq a1 ka1) (f a2 m))
  | _, _ => none
theorem qp_cci__ok {kp : pm_K} {md : pm_M} {d pc : Nat} {n0 n1 n2 : Nat} {ka0 : Nat} {ka1 : Nat} {f : Int32 → qm_M → Option qm_R} (h : ∀ (a2 : Int32) (m : qm_M), qe_J kp md d (f a2 m) pc [(n0, .ref ka0), (n1, .ref ka1), (n2, .int a2)] [] m) : qe_BE kp md d (pc, [n0, n1, n2], qp_cci_ ka0 ka1 f) := by
  intro vs st m x e
  dsimp only at e ⊢
  unfold qp_cci_ at e
  split at e
  · obtain ⟨pa0, ga0⟩ := qe_b_some e
    have pa0 := Nat.eq_of_beq_eq_true pa0
    subst pa0
    obtain ⟨pa1, ga1⟩ := qe_b_some ga0
    have pa1 := Nat.eq_of_beq_eq_true pa1
    subst pa1
    exact h _ _ _ ga1
  · cases e
def qp_ccii_ (ka0 : Nat) (ka1 : Nat) (f : Int32 → Int32 → qm_M → Option qm_R) : qe_P := fun vs st m => match vs, st with
  | [.ref a0, .ref a1, .int a2, .int a3], [] => qe_b (Nat.beq a0 ka0) (qe_b (Nat.beq a1 ka1) (f a2 a3 m))
  | _, _ => none
theorem qp_ccii__ok {kp : pm_K} {md : pm_M} {d pc : Nat} {n0 n1 n2 n3 : Nat} {ka0 : Nat} {ka1 : Nat} {f : Int32 → Int32 → qm_M → Option qm_R} (h : ∀ (a2 : Int32) (a3 : Int32) (m : qm_M), qe_J kp md d (f a2 a3 m) pc [(n0, .ref ka0), (n1, .ref ka1), (n2, .int a2), (n3, .int a3)] [] m) : qe_BE kp md d (pc, [n0, n1, n2, n3], qp_ccii_ ka0 ka1 f) := by
  intro vs st m x e
  dsimp only at e ⊢
  unfold qp_ccii_ at e
  split at e
  · obtain ⟨pa0, ga0⟩ := qe_b_some e
    have pa0 := Nat.eq_of_beq_eq_true pa0
    subst pa0
    obtain ⟨pa1, ga1⟩ := qe_b_some ga0
    have pa1 := Nat.eq_of_beq_eq_true pa1
    subst pa1
    exact h _ _ _ _ ga1
  · cases e
def qp_cciii_ (ka0 : Nat) (ka1 : Nat) (f : Int32 → Int32 → Int32 → qm_M → Option qm_R) : qe_P := fun vs st m => match vs, st with
  | [.ref a0, .ref a1, .int a2, .int a3, .int a4], [] => qe_b (Nat.beq a0 ka0) (qe_b (Nat.beq a1 ka1) (f a2 a3 a4 m))
  | _, _ => none
theorem qp_cciii__ok {kp : pm_K} {md : pm_M} {d pc : Nat} {n0 n1 n2 n3 n4 : Nat} {ka0 : Nat} {ka1 : Nat} {f : Int32 → Int32 → Int32 → qm_M → Option qm_R} (h : ∀ (a2 : Int32) (a3 : Int32) (a4 : Int32) (m : qm_M), qe_J kp md d (f a2 a3 a4 m) pc [(n0, .ref ka0), (n1, .ref ka1), (n2, .int a2), (n3, .int a3), (n4, .int a4)] [] m) : qe_BE kp md d (pc, [n0, n1, n2, n3, n4], qp_cciii_ ka0 ka1 f) := by
  intro vs st m x e
  dsimp only at e ⊢
  unfold qp_cciii_ at e
  split at e
  · obtain ⟨pa0, ga0⟩ := qe_b_some e
    have pa0 := Nat.eq_of_beq_eq_true pa0
    subst pa0
    obtain ⟨pa1, ga1⟩ := qe_b_some ga0
    have pa1 := Nat.eq_of_beq_eq_true pa1
    subst pa1
    exact h _ _ _ _ _ ga1
  · cases e
def qp_cciiii_ (ka0 : Nat) (ka1 : Nat) (f : Int32 → Int32 → Int32 → Int32 → qm_M → Option qm_R) : qe_P := fun vs st m => match vs, st with
  | [.ref a0, .ref a1, .int a2, .int a3, .int a4, .int a5], [] => qe_b (Nat.beq a0 ka0) (qe_b (Nat.beq a1 ka1) (f a2 a3 a4 a5 m))
  | _, _ => none
theorem qp_cciiii__ok {kp : pm_K} {md : pm_M} {d pc : Nat} {n0 n1 n2 n3 n4 n5 : Nat} {ka0 : Nat} {ka1 : Nat} {f : Int32 → Int32 → Int32 → Int32 → qm_M → Option qm_R} (h : ∀ (a2 : Int32) (a3 : Int32) (a4 : Int32) (a5 : Int32) (m : qm_M), qe_J kp md d (f a2 a3 a4 a5 m) pc [(n0, .ref ka0), (n1, .ref ka1), (n2, .int a2), (n3, .int a3), (n4, .int a4), (n5, .int a5)] [] m) : qe_BE kp md d (pc, [n0, n1, n2, n3, n4, n5], qp_cciiii_ ka0 ka1 f) := by
  intro vs st m x e
  dsimp only at e ⊢
  unfold qp_cciiii_ at e
  split at e
  · obtain ⟨pa0, ga0⟩ := qe_b_some e
    have pa0 := Nat.eq_of_beq_eq_true pa0
    subst pa0
    obtain ⟨pa1, ga1⟩ := qe_b_some ga0
    have pa1 := Nat.eq_of_beq_eq_true pa1
    subst pa1
    exact h _ _ _ _ _ _ ga1
  · cases e
def qp_cciiiii_ (ka0 : Nat) (ka1 : Nat) (f : Int32 → Int32 → Int32 → Int32 → Int32 → qm_M → Option qm_R) : qe_P := fun vs st m => match vs, st with
  | [.ref a0, .ref a1, .int a2, .int a3, .int a4, .int a5, .int a6], [] => qe_b (Nat.beq a0 ka0) (qe_b (Nat.beq a1 ka1) (f a2 a3 a4 a5 a6 m))
  | _, _ => none
theorem qp_cciiiii__ok {kp : pm_K} {md : pm_M} {d pc : Nat} {n0 n1 n2 n3 n4 n5 n6 : Nat} {ka0 : Nat} {ka1 : Nat} {f : Int32 → Int32 → Int32 → Int32 → Int32 → qm_M → Option qm_R} (h : ∀ (a2 : Int32) (a3 : Int32) (a4 : Int32) (a5 : Int32) (a6 : Int32) (m : qm_M), qe_J kp md d (f a2 a3 a4 a5 a6 m) pc [(n0, .ref ka0), (n1, .ref ka1), (n2, .int a2), (n3, .int a3), (n4, .int a4), (n5, .int a5), (n6, .int a6)] [] m) : qe_BE kp md d (pc, [n0, n1, n2, n3, n4, n5, n6], qp_cciiiii_ ka0 ka1 f) := by
  intro vs st m x e
  dsimp only at e ⊢
  unfold qp_cciiiii_ at e
  split at e
  · obtain ⟨pa0, ga0⟩ := qe_b_some e
    have pa0 := Nat.eq_of_beq_eq_true pa0
    subst pa0
    obtain ⟨pa1, ga1⟩ := qe_b_some ga0
    have pa1 := Nat.eq_of_beq_eq_true pa1
    subst pa1
    exact h _ _ _ _ _ _ _ ga1
  · cases e
def qp_cciiiii_iiic (ka0 : Nat) (ka1 : Nat) (ks3 : Nat) (f : Int32 → Int32 → Int32 → Int32 → Int32 → Int32 → Int32 → Int32 → qm_M → Option qm_R) : qe_P := fun vs st m => match vs, st with
  | [.ref a0, .ref a1, .int a2, .int a3, .int a4, .int a5, .int a6], [.int s0, .int s1, .int s2, .ref s3] => qe_b (Nat.beq a0 ka0) (qe_b (Nat.beq a1 ka1) (qe_b (Nat.beq s3 ks3) (f a2 a3 a4 a5 a6 s0 s1 s2 m)))
  | _, _ => none
theorem qp_cciiiii_iiic_ok {kp : pm_K} {md : pm_M} {d pc : Nat} {n0 n1 n2 n3 n4 n5 n6 : Nat} {ka0 : Nat} {ka1 : Nat} {ks3 : Nat} {f : Int32 → Int32 → Int32 → Int32 → Int32 → Int32 → Int32 → Int32 → qm_M → Option qm_R} (h : ∀ (a2 : Int32) (a3 : Int32) (a4 : Int32) (a5 : Int32) (a6 : Int32) (s0 : Int32) (s1 : Int32) (s2 : Int32) (m : qm_M), qe_J kp md d (f a2 a3 a4 a5 a6 s0 s1 s2 m) pc [(n0, .ref ka0), (n1, .ref ka1), (n2, .int a2), (n3, .int a3), (n4, .int a4), (n5, .int a5), (n6, .int a6)] [.int s0, .int s1, .int s2, .ref ks3] m) : qe_BE kp md d (pc, [n0, n1, n2, n3, n4, n5, n6], qp_cciiiii_iiic ka0 ka1 ks3 f) := by
  intro vs st m x e
  dsimp only at e ⊢
  unfold qp_cciiiii_iiic at e
  split at e
  · obtain ⟨pa0, ga0⟩ := qe_b_some e
    have pa0 := Nat.eq_of_beq_eq_true pa0
    subst pa0
    obtain ⟨pa1, ga1⟩ := qe_b_some ga0
    have pa1 := Nat.eq_of_beq_eq_true pa1
    subst pa1
    obtain ⟨ps3, gs3⟩ := qe_b_some ga1
    have ps3 := Nat.eq_of_beq_eq_true ps3
    subst ps3
    exact h _ _ _ _ _ _ _ _ _ _ gs3
  · cases e
def qp_ccli_ (ka0 : Nat) (ka1 : Nat) (f : Int64 → Int32 → qm_M → Option qm_R) : qe_P := fun vs st m => match vs, st with
  | [.ref a0, .ref a1, .long a2, .int a3], [] => qe_b (Nat.beq a0 ka0) (qe_b (Nat.beq a1 ka1) (f a2 a3 m))
  | _, _ => none
theorem qp_ccli__ok {kp : pm_K} {md : pm_M} {d pc : Nat} {n0 n1 n2 n3 : Nat} {ka0 : Nat} {ka1 : Nat} {f : Int64 → Int32 → qm_M → Option qm_R} (h : ∀ (a2 : Int64) (a3 : Int32) (m : qm_M), qe_J kp md d (f a2 a3 m) pc [(n0, .ref ka0), (n1, .ref ka1), (n2, .long a2), (n3, .int a3)] [] m) : qe_BE kp md d (pc, [n0, n1, n2, n3], qp_ccli_ ka0 ka1 f) := by
  intro vs st m x e
  dsimp only at e ⊢
  unfold qp_ccli_ at e
  split at e
  · obtain ⟨pa0, ga0⟩ := qe_b_some e
    have pa0 := Nat.eq_of_beq_eq_true pa0
    subst pa0
    obtain ⟨pa1, ga1⟩ := qe_b_some ga0
    have pa1 := Nat.eq_of_beq_eq_true pa1
    subst pa1
    exact h _ _ _ _ ga1
  · cases e
def qp_ci_ (ka0 : Nat) (f : Int32 → qm_M → Option qm_R) : qe_P := fun vs st m => match vs, st with
  | [.ref a0, .int a1], [] => qe_b (Nat.beq a0 ka0) (f a1 m)
  | _, _ => none
theorem qp_ci__ok {kp : pm_K} {md : pm_M} {d pc : Nat} {n0 n1 : Nat} {ka0 : Nat} {f : Int32 → qm_M → Option qm_R} (h : ∀ (a1 : Int32) (m : qm_M), qe_J kp md d (f a1 m) pc [(n0, .ref ka0), (n1, .int a1)] [] m) : qe_BE kp md d (pc, [n0, n1], qp_ci_ ka0 f) := by
  intro vs st m x e
  dsimp only at e ⊢
  unfold qp_ci_ at e
  split at e
  · obtain ⟨pa0, ga0⟩ := qe_b_some e
    have pa0 := Nat.eq_of_beq_eq_true pa0
    subst pa0
    exact h _ _ _ ga0
  · cases e
def qp_ci_i (ka0 : Nat) (f : Int32 → Int32 → qm_M → Option qm_R) : qe_P := fun vs st m => match vs, st with
  | [.ref a0, .int a1], [.int s0] => qe_b (Nat.beq a0 ka0) (f a1 s0 m)
  | _, _ => none
theorem qp_ci_i_ok {kp : pm_K} {md : pm_M} {d pc : Nat} {n0 n1 : Nat} {ka0 : Nat} {f : Int32 → Int32 → qm_M → Option qm_R} (h : ∀ (a1 : Int32) (s0 : Int32) (m : qm_M), qe_J kp md d (f a1 s0 m) pc [(n0, .ref ka0), (n1, .int a1)] [.int s0] m) : qe_BE kp md d (pc, [n0, n1], qp_ci_i ka0 f) := by
  intro vs st m x e
  dsimp only at e ⊢
  unfold qp_ci_i at e
  split at e
  · obtain ⟨pa0, ga0⟩ := qe_b_some e
    have pa0 := Nat.eq_of_beq_eq_true pa0
    subst pa0
    exact h _ _ _ _ ga0
  · cases e
def qp_cii_ (ka0 : Nat) (f : Int32 → Int32 → qm_M → Option qm_R) : qe_P := fun vs st m => match vs, st with
  | [.ref a0, .int a1, .int a2], [] => qe_b (Nat.beq a0 ka0) (f a1 a2 m)
  | _, _ => none
theorem qp_cii__ok {kp : pm_K} {md : pm_M} {d pc : Nat} {n0 n1 n2 : Nat} {ka0 : Nat} {f : Int32 → Int32 → qm_M → Option qm_R} (h : ∀ (a1 : Int32) (a2 : Int32) (m : qm_M), qe_J kp md d (f a1 a2 m) pc [(n0, .ref ka0), (n1, .int a1), (n2, .int a2)] [] m) : qe_BE kp md d (pc, [n0, n1, n2], qp_cii_ ka0 f) := by
  intro vs st m x e
  dsimp only at e ⊢
  unfold qp_cii_ at e
  split at e
  · obtain ⟨pa0, ga0⟩ := qe_b_some e
    have pa0 := Nat.eq_of_beq_eq_true pa0
    subst pa0
    exact h _ _ _ _ ga0
  · cases e
def qp_cii_ic (ka0 : Nat) (ks1 : Nat) (f : Int32 → Int32 → Int32 → qm_M → Option qm_R) : qe_P := fun vs st m => match vs, st with
  | [.ref a0, .int a1, .int a2], [.int s0, .ref s1] => qe_b (Nat.beq a0 ka0) (qe_b (Nat.beq s1 ks1) (f a1 a2 s0 m))
  | _, _ => none
theorem qp_cii_ic_ok {kp : pm_K} {md : pm_M} {d pc : Nat} {n0 n1 n2 : Nat} {ka0 : Nat} {ks1 : Nat} {f : Int32 → Int32 → Int32 → qm_M → Option qm_R} (h : ∀ (a1 : Int32) (a2 : Int32) (s0 : Int32) (m : qm_M), qe_J kp md d (f a1 a2 s0 m) pc [(n0, .ref ka0), (n1, .int a1), (n2, .int a2)] [.int s0, .ref ks1] m) : qe_BE kp md d (pc, [n0, n1, n2], qp_cii_ic ka0 ks1 f) := by
  intro vs st m x e
  dsimp only at e ⊢
  unfold qp_cii_ic at e
  split at e
  · obtain ⟨pa0, ga0⟩ := qe_b_some e
    have pa0 := Nat.eq_of_beq_eq_true pa0
    subst pa0
    obtain ⟨ps1, gs1⟩ := qe_b_some ga0
    have ps1 := Nat.eq_of_beq_eq_true ps1
    subst ps1
    exact h _ _ _ _ _ gs1
  · cases e
def qp_cii_icc (ka0 : Nat) (ks1 : Nat) (ks2 : Nat) (f : Int32 → Int32 → Int32 → qm_M → Option qm_R) : qe_P := fun vs st m => match vs, st with
  | [.ref a0, .int a1, .int a2], [.int s0, .ref s1, .ref s2] => qe_b (Nat.beq a0 ka0) (qe_b (Nat.beq s1 ks1) (qe_b (Nat.beq s2 ks2) (f a1 a2 s0 m)))
  | _, _ => none
theorem qp_cii_icc_ok {kp : pm_K} {md : pm_M} {d pc : Nat} {n0 n1 n2 : Nat} {ka0 : Nat} {ks1 : Nat} {ks2 : Nat} {f : Int32 → Int32 → Int32 → qm_M → Option qm_R} (h : ∀ (a1 : Int32) (a2 : Int32) (s0 : Int32) (m : qm_M), qe_J kp md d (f a1 a2 s0 m) pc [(n0, .ref ka0), (n1, .int a1), (n2, .int a2)] [.int s0, .ref ks1, .ref ks2] m) : qe_BE kp md d (pc, [n0, n1, n2], qp_cii_icc ka0 ks1 ks2 f) := by
  intro vs st m x e
  dsimp only at e ⊢
  unfold qp_cii_icc at e
  split at e
  · obtain ⟨pa0, ga0⟩ := qe_b_some e
    have pa0 := Nat.eq_of_beq_eq_true pa0
    subst pa0
    obtain ⟨ps1, gs1⟩ := qe_b_some ga0
    have ps1 := Nat.eq_of_beq_eq_true ps1
    subst ps1
    obtain ⟨ps2, gs2⟩ := qe_b_some gs1
    have ps2 := Nat.eq_of_beq_eq_true ps2
    subst ps2
    exact h _ _ _ _ _ gs2
  · cases e
def qp_cii_llc (ka0 : Nat) (ks2 : Nat) (f : Int32 → Int32 → Int64 → Int64 → qm_M → Option qm_R) : qe_P := fun vs st m => match vs, st with
  | [.ref a0, .int a1, .int a2], [.long s0, .long s1, .ref s2] => qe_b (Nat.beq a0 ka0) (qe_b (Nat.beq s2 ks2) (f a1 a2 s0 s1 m))
  | _, _ => none
theorem qp_cii_llc_ok {kp : pm_K} {md : pm_M} {d pc : Nat} {n0 n1 n2 : Nat} {ka0 : Nat} {ks2 : Nat} {f : Int32 → Int32 → Int64 → Int64 → qm_M → Option qm_R} (h : ∀ (a1 : Int32) (a2 : Int32) (s0 : Int64) (s1 : Int64) (m : qm_M), qe_J kp md d (f a1 a2 s0 s1 m) pc [(n0, .ref ka0), (n1, .int a1), (n2, .int a2)] [.long s0, .long s1, .ref ks2] m) : qe_BE kp md d (pc, [n0, n1, n2], qp_cii_llc ka0 ks2 f) := by
  intro vs st m x e
  dsimp only at e ⊢
  unfold qp_cii_llc at e
  split at e
  · obtain ⟨pa0, ga0⟩ := qe_b_some e
    have pa0 := Nat.eq_of_beq_eq_true pa0
    subst pa0
    obtain ⟨ps2, gs2⟩ := qe_b_some ga0
    have ps2 := Nat.eq_of_beq_eq_true ps2
    subst ps2
    exact h _ _ _ _ _ _ gs2
  · cases e
def qp_ciici_ (ka0 : Nat) (ka3 : Nat) (f : Int32 → Int32 → Int32 → qm_M → Option qm_R) : qe_P := fun vs st m => match vs, st with
  | [.ref a0, .int a1, .int a2, .ref a3, .int a4], [] => qe_b (Nat.beq a0 ka0) (qe_b (Nat.beq a3 ka3) (f a1 a2 a4 m))
  | _, _ => none
theorem qp_ciici__ok {kp : pm_K} {md : pm_M} {d pc : Nat} {n0 n1 n2 n3 n4 : Nat} {ka0 : Nat} {ka3 : Nat} {f : Int32 → Int32 → Int32 → qm_M → Option qm_R} (h : ∀ (a1 : Int32) (a2 : Int32) (a4 : Int32) (m : qm_M), qe_J kp md d (f a1 a2 a4 m) pc [(n0, .ref ka0), (n1, .int a1), (n2, .int a2), (n3, .ref ka3), (n4, .int a4)] [] m) : qe_BE kp md d (pc, [n0, n1, n2, n3, n4], qp_ciici_ ka0 ka3 f) := by
  intro vs st m x e
  dsimp only at e ⊢
  unfold qp_ciici_ at e
  split at e
  · obtain ⟨pa0, ga0⟩ := qe_b_some e
    have pa0 := Nat.eq_of_beq_eq_true pa0
    subst pa0
    obtain ⟨pa3, ga3⟩ := qe_b_some ga0
    have pa3 := Nat.eq_of_beq_eq_true pa3
    subst pa3
    exact h _ _ _ _ _ ga3
  · cases e
def qp_ciicii_ (ka0 : Nat) (ka3 : Nat) (f : Int32 → Int32 → Int32 → Int32 → qm_M → Option qm_R) : qe_P := fun vs st m => match vs, st with
  | [.ref a0, .int a1, .int a2, .ref a3, .int a4, .int a5], [] => qe_b (Nat.beq a0 ka0) (qe_b (Nat.beq a3 ka3) (f a1 a2 a4 a5 m))
  | _, _ => none
theorem qp_ciicii__ok {kp : pm_K} {md : pm_M} {d pc : Nat} {n0 n1 n2 n3 n4 n5 : Nat} {ka0 : Nat} {ka3 : Nat} {f : Int32 → Int32 → Int32 → Int32 → qm_M → Option qm_R} (h : ∀ (a1 : Int32) (a2 : Int32) (a4 : Int32) (a5 : Int32) (m : qm_M), qe_J kp md d (f a1 a2 a4 a5 m) pc [(n0, .ref ka0), (n1, .int a1), (n2, .int a2), (n3, .ref ka3), (n4, .int a4), (n5, .int a5)] [] m) : qe_BE kp md d (pc, [n0, n1, n2, n3, n4, n5], qp_ciicii_ ka0 ka3 f) := by
  intro vs st m x e
  dsimp only at e ⊢
  unfold qp_ciicii_ at e
  split at e
  · obtain ⟨pa0, ga0⟩ := qe_b_some e
    have pa0 := Nat.eq_of_beq_eq_true pa0
    subst pa0
    obtain ⟨pa3, ga3⟩ := qe_b_some ga0
    have pa3 := Nat.eq_of_beq_eq_true pa3
    subst pa3
    exact h _ _ _ _ _ _ ga3
  · cases e
def qp_ciii_ (ka0 : Nat) (f : Int32 → Int32 → Int32 → qm_M → Option qm_R) : qe_P := fun vs st m => match vs, st with
  | [.ref a0, .int a1, .int a2, .int a3], [] => qe_b (Nat.beq a0 ka0) (f a1 a2 a3 m)
  | _, _ => none
theorem qp_ciii__ok {kp : pm_K} {md : pm_M} {d pc : Nat} {n0 n1 n2 n3 : Nat} {ka0 : Nat} {f : Int32 → Int32 → Int32 → qm_M → Option qm_R} (h : ∀ (a1 : Int32) (a2 : Int32) (a3 : Int32) (m : qm_M), qe_J kp md d (f a1 a2 a3 m) pc [(n0, .ref ka0), (n1, .int a1), (n2, .int a2), (n3, .int a3)] [] m) : qe_BE kp md d (pc, [n0, n1, n2, n3], qp_ciii_ ka0 f) := by
  intro vs st m x e
  dsimp only at e ⊢
  unfold qp_ciii_ at e
  split at e
  · obtain ⟨pa0, ga0⟩ := qe_b_some e
    have pa0 := Nat.eq_of_beq_eq_true pa0
    subst pa0
    exact h _ _ _ _ _ ga0
  · cases e
def qp_ciiii_ (ka0 : Nat) (f : Int32 → Int32 → Int32 → Int32 → qm_M → Option qm_R) : qe_P := fun vs st m => match vs, st with
  | [.ref a0, .int a1, .int a2, .int a3, .int a4], [] => qe_b (Nat.beq a0 ka0) (f a1 a2 a3 a4 m)
  | _, _ => none
theorem qp_ciiii__ok {kp : pm_K} {md : pm_M} {d pc : Nat} {n0 n1 n2 n3 n4 : Nat} {ka0 : Nat} {f : Int32 → Int32 → Int32 → Int32 → qm_M → Option qm_R} (h : ∀ (a1 : Int32) (a2 : Int32) (a3 : Int32) (a4 : Int32) (m : qm_M), qe_J kp md d (f a1 a2 a3 a4 m) pc [(n0, .ref ka0), (n1, .int a1), (n2, .int a2), (n3, .int a3), (n4, .int a4)] [] m) : qe_BE kp md d (pc, [n0, n1, n2, n3, n4], qp_ciiii_ ka0 f) := by
  intro vs st m x e
  dsimp only at e ⊢
  unfold qp_ciiii_ at e
  split at e
  · obtain ⟨pa0, ga0⟩ := qe_b_some e
    have pa0 := Nat.eq_of_beq_eq_true pa0
    subst pa0
    exact h _ _ _ _ _ _ ga0
  · cases e
def qp_ciiii_ii (ka0 : Nat) (f : Int32 → Int32 → Int32 → Int32 → Int32 → Int32 → qm_M → Option qm_R) : qe_P := fun vs st m => match vs, st with
  | [.ref a0, .int a1, .int a2, .int a3, .int a4], [.int s0, .int s1] => qe_b (Nat.beq a0 ka0) (f a1 a2 a3 a4 s0 s1 m)
  | _, _ => none
theorem qp_ciiii_ii_ok {kp : pm_K} {md : pm_M} {d pc : Nat} {n0 n1 n2 n3 n4 : Nat} {ka0 : Nat} {f : Int32 → Int32 → Int32 → Int32 → Int32 → Int32 → qm_M → Option qm_R} (h : ∀ (a1 : Int32) (a2 : Int32) (a3 : Int32) (a4 : Int32) (s0 : Int32) (s1 : Int32) (m : qm_M), qe_J kp md d (f a1 a2 a3 a4 s0 s1 m) pc [(n0, .ref ka0), (n1, .int a1), (n2, .int a2), (n3, .int a3), (n4, .int a4)] [.int s0, .int s1] m) : qe_BE kp md d (pc, [n0, n1, n2, n3, n4], qp_ciiii_ii ka0 f) := by
  intro vs st m x e
  dsimp only at e ⊢
  unfold qp_ciiii_ii at e
  split at e
  · obtain ⟨pa0, ga0⟩ := qe_b_some e
    have pa0 := Nat.eq_of_beq_eq_true pa0
    subst pa0
    exact h _ _ _ _ _ _ _ _ ga0
  · cases e
def qp_ciiiii_ (ka0 : Nat) (f : Int32 → Int32 → Int32 → Int32 → Int32 → qm_M → Option qm_R) : qe_P := fun vs st m => match vs, st with
  | [.ref a0, .int a1, .int a2, .int a3, .int a4, .int a5], [] => qe_b (Nat.beq a0 ka0) (f a1 a2 a3 a4 a5 m)
  | _, _ => none
theorem qp_ciiiii__ok {kp : pm_K} {md : pm_M} {d pc : Nat} {n0 n1 n2 n3 n4 n5 : Nat} {ka0 : Nat} {f : Int32 → Int32 → Int32 → Int32 → Int32 → qm_M → Option qm_R} (h : ∀ (a1 : Int32) (a2 : Int32) (a3 : Int32) (a4 : Int32) (a5 : Int32) (m : qm_M), qe_J kp md d (f a1 a2 a3 a4 a5 m) pc [(n0, .ref ka0), (n1, .int a1), (n2, .int a2), (n3, .int a3), (n4, .int a4), (n5, .int a5)] [] m) : qe_BE kp md d (pc, [n0, n1, n2, n3, n4, n5], qp_ciiiii_ ka0 f) := by
  intro vs st m x e
  dsimp only at e ⊢
  unfold qp_ciiiii_ at e
  split at e
  · obtain ⟨pa0, ga0⟩ := qe_b_some e
    have pa0 := Nat.eq_of_beq_eq_true pa0
    subst pa0
    exact h _ _ _ _ _ _ _ ga0
  · cases e
def qp_ciiiiii_ (ka0 : Nat) (f : Int32 → Int32 → Int32 → Int32 → Int32 → Int32 → qm_M → Option qm_R) : qe_P := fun vs st m => match vs, st with
  | [.ref a0, .int a1, .int a2, .int a3, .int a4, .int a5, .int a6], [] => qe_b (Nat.beq a0 ka0) (f a1 a2 a3 a4 a5 a6 m)
  | _, _ => none
theorem qp_ciiiiii__ok {kp : pm_K} {md : pm_M} {d pc : Nat} {n0 n1 n2 n3 n4 n5 n6 : Nat} {ka0 : Nat} {f : Int32 → Int32 → Int32 → Int32 → Int32 → Int32 → qm_M → Option qm_R} (h : ∀ (a1 : Int32) (a2 : Int32) (a3 : Int32) (a4 : Int32) (a5 : Int32) (a6 : Int32) (m : qm_M), qe_J kp md d (f a1 a2 a3 a4 a5 a6 m) pc [(n0, .ref ka0), (n1, .int a1), (n2, .int a2), (n3, .int a3), (n4, .int a4), (n5, .int a5), (n6, .int a6)] [] m) : qe_BE kp md d (pc, [n0, n1, n2, n3, n4, n5, n6], qp_ciiiiii_ ka0 f) := by
  intro vs st m x e
  dsimp only at e ⊢
  unfold qp_ciiiiii_ at e
  split at e
  · obtain ⟨pa0, ga0⟩ := qe_b_some e
    have pa0 := Nat.eq_of_beq_eq_true pa0
    subst pa0
    exact h _ _ _ _ _ _ _ _ ga0
  · cases e
def qp_ciiiiii_i (ka0 : Nat) (f : Int32 → Int32 → Int32 → Int32 → Int32 → Int32 → Int32 → qm_M → Option qm_R) : qe_P := fun vs st m => match vs, st with
  | [.ref a0, .int a1, .int a2, .int a3, .int a4, .int a5, .int a6], [.int s0] => qe_b (Nat.beq a0 ka0) (f a1 a2 a3 a4 a5 a6 s0 m)
  | _, _ => none
theorem qp_ciiiiii_i_ok {kp : pm_K} {md : pm_M} {d pc : Nat} {n0 n1 n2 n3 n4 n5 n6 : Nat} {ka0 : Nat} {f : Int32 → Int32 → Int32 → Int32 → Int32 → Int32 → Int32 → qm_M → Option qm_R} (h : ∀ (a1 : Int32) (a2 : Int32) (a3 : Int32) (a4 : Int32) (a5 : Int32) (a6 : Int32) (s0 : Int32) (m : qm_M), qe_J kp md d (f a1 a2 a3 a4 a5 a6 s0 m) pc [(n0, .ref ka0), (n1, .int a1), (n2, .int a2), (n3, .int a3), (n4, .int a4), (n5, .int a5), (n6, .int a6)] [.int s0] m) : qe_BE kp md d (pc, [n0, n1, n2, n3, n4, n5, n6], qp_ciiiiii_i ka0 f) := by
  intro vs st m x e
  dsimp only at e ⊢
  unfold qp_ciiiiii_i at e
  split at e
  · obtain ⟨pa0, ga0⟩ := qe_b_some e
    have pa0 := Nat.eq_of_beq_eq_true pa0
    subst pa0
    exact h _ _ _ _ _ _ _ _ _ ga0
  · cases e
def qp_ciiiiiii_ (ka0 : Nat) (f : Int32 → Int32 → Int32 → Int32 → Int32 → Int32 → Int32 → qm_M → Option qm_R) : qe_P := fun vs st m => match vs, st with
  | [.ref a0, .int a1, .int a2, .int a3, .int a4, .int a5, .int a6, .int a7], [] => qe_b (Nat.beq a0 ka0) (f a1 a2 a3 a4 a5 a6 a7 m)
  | _, _ => none
theorem qp_ciiiiiii__ok {kp : pm_K} {md : pm_M} {d pc : Nat} {n0 n1 n2 n3 n4 n5 n6 n7 : Nat} {ka0 : Nat} {f : Int32 → Int32 → Int32 → Int32 → Int32 → Int32 → Int32 → qm_M → Option qm_R} (h : ∀ (a1 : Int32) (a2 : Int32) (a3 : Int32) (a4 : Int32) (a5 : Int32) (a6 : Int32) (a7 : Int32) (m : qm_M), qe_J kp md d (f a1 a2 a3 a4 a5 a6 a7 m) pc [(n0, .ref ka0), (n1, .int a1), (n2, .int a2), (n3, .int a3), (n4, .int a4), (n5, .int a5), (n6, .int a6), (n7, .int a7)] [] m) : qe_BE kp md d (pc, [n0, n1, n2, n3, n4, n5, n6, n7], qp_ciiiiiii_ ka0 f) := by
  intro vs st m x e
  dsimp only at e ⊢
  unfold qp_ciiiiiii_ at e
  split at e
  · obtain ⟨pa0, ga0⟩ := qe_b_some e
    have pa0 := Nat.eq_of_beq_eq_true pa0
    subst pa0
    exact h _ _ _ _ _ _ _ _ _ ga0
  · cases e
def qp_ciiiil_ (ka0 : Nat) (f : Int32 → Int32 → Int32 → Int32 → Int64 → qm_M → Option qm_R) : qe_P := fun vs st m => match vs, st with
  | [.ref a0, .int a1, .int a2, .int a3, .int a4, .long a5], [] => qe_b (Nat.beq a0 ka0) (f a1 a2 a3 a4 a5 m)
  | _, _ => none
theorem qp_ciiiil__ok {kp : pm_K} {md : pm_M} {d pc : Nat} {n0 n1 n2 n3 n4 n5 : Nat} {ka0 : Nat} {f : Int32 → Int32 → Int32 → Int32 → Int64 → qm_M → Option qm_R} (h : ∀ (a1 : Int32) (a2 : Int32) (a3 : Int32) (a4 : Int32) (a5 : Int64) (m : qm_M), qe_J kp md d (f a1 a2 a3 a4 a5 m) pc [(n0, .ref ka0), (n1, .int a1), (n2, .int a2), (n3, .int a3), (n4, .int a4), (n5, .long a5)] [] m) : qe_BE kp md d (pc, [n0, n1, n2, n3, n4, n5], qp_ciiiil_ ka0 f) := by
  intro vs st m x e
  dsimp only at e ⊢
  unfold qp_ciiiil_ at e
  split at e
  · obtain ⟨pa0, ga0⟩ := qe_b_some e
    have pa0 := Nat.eq_of_beq_eq_true pa0
    subst pa0
    exact h _ _ _ _ _ _ _ ga0
  · cases e
def qp_ciiiili_ (ka0 : Nat) (f : Int32 → Int32 → Int32 → Int32 → Int64 → Int32 → qm_M → Option qm_R) : qe_P := fun vs st m => match vs, st with
  | [.ref a0, .int a1, .int a2, .int a3, .int a4, .long a5, .int a6], [] => qe_b (Nat.beq a0 ka0) (f a1 a2 a3 a4 a5 a6 m)
  | _, _ => none
theorem qp_ciiiili__ok {kp : pm_K} {md : pm_M} {d pc : Nat} {n0 n1 n2 n3 n4 n5 n6 : Nat} {ka0 : Nat} {f : Int32 → Int32 → Int32 → Int32 → Int64 → Int32 → qm_M → Option qm_R} (h : ∀ (a1 : Int32) (a2 : Int32) (a3 : Int32) (a4 : Int32) (a5 : Int64) (a6 : Int32) (m : qm_M), qe_J kp md d (f a1 a2 a3 a4 a5 a6 m) pc [(n0, .ref ka0), (n1, .int a1), (n2, .int a2), (n3, .int a3), (n4, .int a4), (n5, .long a5), (n6, .int a6)] [] m) : qe_BE kp md d (pc, [n0, n1, n2, n3, n4, n5, n6], qp_ciiiili_ ka0 f) := by
  intro vs st m x e
  dsimp only at e ⊢
  unfold qp_ciiiili_ at e
  split at e
  · obtain ⟨pa0, ga0⟩ := qe_b_some e
    have pa0 := Nat.eq_of_beq_eq_true pa0
    subst pa0
    exact h _ _ _ _ _ _ _ _ ga0
  · cases e
def qp_ciiil_ (ka0 : Nat) (f : Int32 → Int32 → Int32 → Int64 → qm_M → Option qm_R) : qe_P := fun vs st m => match vs, st with
  | [.ref a0, .int a1, .int a2, .int a3, .long a4], [] => qe_b (Nat.beq a0 ka0) (f a1 a2 a3 a4 m)
  | _, _ => none
theorem qp_ciiil__ok {kp : pm_K} {md : pm_M} {d pc : Nat} {n0 n1 n2 n3 n4 : Nat} {ka0 : Nat} {f : Int32 → Int32 → Int32 → Int64 → qm_M → Option qm_R} (h : ∀ (a1 : Int32) (a2 : Int32) (a3 : Int32) (a4 : Int64) (m : qm_M), qe_J kp md d (f a1 a2 a3 a4 m) pc [(n0, .ref ka0), (n1, .int a1), (n2, .int a2), (n3, .int a3), (n4, .long a4)] [] m) : qe_BE kp md d (pc, [n0, n1, n2, n3, n4], qp_ciiil_ ka0 f) := by
  intro vs st m x e
  dsimp only at e ⊢
  unfold qp_ciiil_ at e
  split at e
  · obtain ⟨pa0, ga0⟩ := qe_b_some e
    have pa0 := Nat.eq_of_beq_eq_true pa0
    subst pa0
    exact h _ _ _ _ _ _ ga0
  · cases e
def qp_ciil_l (ka0 : Nat) (f : Int32 → Int32 → Int64 → Int64 → qm_M → Option qm_R) : qe_P := fun vs st m => match vs, st with
  | [.ref a0, .int a1, .int a2, .long a3], [.long s0] => qe_b (Nat.beq a0 ka0) (f a1 a2 a3 s0 m)
  | _, _ => none
theorem qp_ciil_l_ok {kp : pm_K} {md : pm_M} {d pc : Nat} {n0 n1 n2 n3 : Nat} {ka0 : Nat} {f : Int32 → Int32 → Int64 → Int64 → qm_M → Option qm_R} (h : ∀ (a1 : Int32) (a2 : Int32) (a3 : Int64) (s0 : Int64) (m : qm_M), qe_J kp md d (f a1 a2 a3 s0 m) pc [(n0, .ref ka0), (n1, .int a1), (n2, .int a2), (n3, .long a3)] [.long s0] m) : qe_BE kp md d (pc, [n0, n1, n2, n3], qp_ciil_l ka0 f) := by
  intro vs st m x e
  dsimp only at e ⊢
  unfold qp_ciil_l at e
  split at e
  · obtain ⟨pa0, ga0⟩ := qe_b_some e
    have pa0 := Nat.eq_of_beq_eq_true pa0
    subst pa0
    exact h _ _ _ _ _ _ ga0
  · cases e
def qp_ciili_ (ka0 : Nat) (f : Int32 → Int32 → Int64 → Int32 → qm_M → Option qm_R) : qe_P := fun vs st m => match vs, st with
  | [.ref a0, .int a1, .int a2, .long a3, .int a4], [] => qe_b (Nat.beq a0 ka0) (f a1 a2 a3 a4 m)
  | _, _ => none
theorem qp_ciili__ok {kp : pm_K} {md : pm_M} {d pc : Nat} {n0 n1 n2 n3 n4 : Nat} {ka0 : Nat} {f : Int32 → Int32 → Int64 → Int32 → qm_M → Option qm_R} (h : ∀ (a1 : Int32) (a2 : Int32) (a3 : Int64) (a4 : Int32) (m : qm_M), qe_J kp md d (f a1 a2 a3 a4 m) pc [(n0, .ref ka0), (n1, .int a1), (n2, .int a2), (n3, .long a3), (n4, .int a4)] [] m) : qe_BE kp md d (pc, [n0, n1, n2, n3, n4], qp_ciili_ ka0 f) := by
  intro vs st m x e
  dsimp only at e ⊢
  unfold qp_ciili_ at e
  split at e
  · obtain ⟨pa0, ga0⟩ := qe_b_some e
    have pa0 := Nat.eq_of_beq_eq_true pa0
    subst pa0
    exact h _ _ _ _ _ _ ga0
  · cases e
def qp_ciill_ (ka0 : Nat) (f : Int32 → Int32 → Int64 → Int64 → qm_M → Option qm_R) : qe_P := fun vs st m => match vs, st with
  | [.ref a0, .int a1, .int a2, .long a3, .long a4], [] => qe_b (Nat.beq a0 ka0) (f a1 a2 a3 a4 m)
  | _, _ => none
theorem qp_ciill__ok {kp : pm_K} {md : pm_M} {d pc : Nat} {n0 n1 n2 n3 n4 : Nat} {ka0 : Nat} {f : Int32 → Int32 → Int64 → Int64 → qm_M → Option qm_R} (h : ∀ (a1 : Int32) (a2 : Int32) (a3 : Int64) (a4 : Int64) (m : qm_M), qe_J kp md d (f a1 a2 a3 a4 m) pc [(n0, .ref ka0), (n1, .int a1), (n2, .int a2), (n3, .long a3), (n4, .long a4)] [] m) : qe_BE kp md d (pc, [n0, n1, n2, n3, n4], qp_ciill_ ka0 f) := by
  intro vs st m x e
  dsimp only at e ⊢
  unfold qp_ciill_ at e
  split at e
  · obtain ⟨pa0, ga0⟩ := qe_b_some e
    have pa0 := Nat.eq_of_beq_eq_true pa0
    subst pa0
    exact h _ _ _ _ _ _ ga0
  · cases e
def qp_cil_ (ka0 : Nat) (f : Int32 → Int64 → qm_M → Option qm_R) : qe_P := fun vs st m => match vs, st with
  | [.ref a0, .int a1, .long a2], [] => qe_b (Nat.beq a0 ka0) (f a1 a2 m)
  | _, _ => none
theorem qp_cil__ok {kp : pm_K} {md : pm_M} {d pc : Nat} {n0 n1 n2 : Nat} {ka0 : Nat} {f : Int32 → Int64 → qm_M → Option qm_R} (h : ∀ (a1 : Int32) (a2 : Int64) (m : qm_M), qe_J kp md d (f a1 a2 m) pc [(n0, .ref ka0), (n1, .int a1), (n2, .long a2)] [] m) : qe_BE kp md d (pc, [n0, n1, n2], qp_cil_ ka0 f) := by
  intro vs st m x e
  dsimp only at e ⊢
  unfold qp_cil_ at e
  split at e
  · obtain ⟨pa0, ga0⟩ := qe_b_some e
    have pa0 := Nat.eq_of_beq_eq_true pa0
    subst pa0
    exact h _ _ _ _ ga0
  · cases e
def qp_cil_i (ka0 : Nat) (f : Int32 → Int64 → Int32 → qm_M → Option qm_R) : qe_P := fun vs st m => match vs, st with
  | [.ref a0, .int a1, .long a2], [.int s0] => qe_b (Nat.beq a0 ka0) (f a1 a2 s0 m)
  | _, _ => none
theorem qp_cil_i_ok {kp : pm_K} {md : pm_M} {d pc : Nat} {n0 n1 n2 : Nat} {ka0 : Nat} {f : Int32 → Int64 → Int32 → qm_M → Option qm_R} (h : ∀ (a1 : Int32) (a2 : Int64) (s0 : Int32) (m : qm_M), qe_J kp md d (f a1 a2 s0 m) pc [(n0, .ref ka0), (n1, .int a1), (n2, .long a2)] [.int s0] m) : qe_BE kp md d (pc, [n0, n1, n2], qp_cil_i ka0 f) := by
  intro vs st m x e
  dsimp only at e ⊢
  unfold qp_cil_i at e
  split at e
  · obtain ⟨pa0, ga0⟩ := qe_b_some e
    have pa0 := Nat.eq_of_beq_eq_true pa0
    subst pa0
    exact h _ _ _ _ _ ga0
  · cases e
def qp_cili_ (ka0 : Nat) (f : Int32 → Int64 → Int32 → qm_M → Option qm_R) : qe_P := fun vs st m => match vs, st with
  | [.ref a0, .int a1, .long a2, .int a3], [] => qe_b (Nat.beq a0 ka0) (f a1 a2 a3 m)
  | _, _ => none
theorem qp_cili__ok {kp : pm_K} {md : pm_M} {d pc : Nat} {n0 n1 n2 n3 : Nat} {ka0 : Nat} {f : Int32 → Int64 → Int32 → qm_M → Option qm_R} (h : ∀ (a1 : Int32) (a2 : Int64) (a3 : Int32) (m : qm_M), qe_J kp md d (f a1 a2 a3 m) pc [(n0, .ref ka0), (n1, .int a1), (n2, .long a2), (n3, .int a3)] [] m) : qe_BE kp md d (pc, [n0, n1, n2, n3], qp_cili_ ka0 f) := by
  intro vs st m x e
  dsimp only at e ⊢
  unfold qp_cili_ at e
  split at e
  · obtain ⟨pa0, ga0⟩ := qe_b_some e
    have pa0 := Nat.eq_of_beq_eq_true pa0
    subst pa0
    exact h _ _ _ _ _ ga0
  · cases e
def qp_cilii_ (ka0 : Nat) (f : Int32 → Int64 → Int32 → Int32 → qm_M → Option qm_R) : qe_P := fun vs st m => match vs, st with
  | [.ref a0, .int a1, .long a2, .int a3, .int a4], [] => qe_b (Nat.beq a0 ka0) (f a1 a2 a3 a4 m)
  | _, _ => none
theorem qp_cilii__ok {kp : pm_K} {md : pm_M} {d pc : Nat} {n0 n1 n2 n3 n4 : Nat} {ka0 : Nat} {f : Int32 → Int64 → Int32 → Int32 → qm_M → Option qm_R} (h : ∀ (a1 : Int32) (a2 : Int64) (a3 : Int32) (a4 : Int32) (m : qm_M), qe_J kp md d (f a1 a2 a3 a4 m) pc [(n0, .ref ka0), (n1, .int a1), (n2, .long a2), (n3, .int a3), (n4, .int a4)] [] m) : qe_BE kp md d (pc, [n0, n1, n2, n3, n4], qp_cilii_ ka0 f) := by
  intro vs st m x e
  dsimp only at e ⊢
  unfold qp_cilii_ at e
  split at e
  · obtain ⟨pa0, ga0⟩ := qe_b_some e
    have pa0 := Nat.eq_of_beq_eq_true pa0
    subst pa0
    exact h _ _ _ _ _ _ ga0
  · cases e
def qp_cilii_lic (ka0 : Nat) (ks2 : Nat) (f : Int32 → Int64 → Int32 → Int32 → Int64 → Int32 → qm_M → Option qm_R) : qe_P := fun vs st m => match vs, st with
  | [.ref a0, .int a1, .long a2, .int a3, .int a4], [.long s0, .int s1, .ref s2] => qe_b (Nat.beq a0 ka0) (qe_b (Nat.beq s2 ks2) (f a1 a2 a3 a4 s0 s1 m))
  | _, _ => none
theorem qp_cilii_lic_ok {kp : pm_K} {md : pm_M} {d pc : Nat} {n0 n1 n2 n3 n4 : Nat} {ka0 : Nat} {ks2 : Nat} {f : Int32 → Int64 → Int32 → Int32 → Int64 → Int32 → qm_M → Option qm_R} (h : ∀ (a1 : Int32) (a2 : Int64) (a3 : Int32) (a4 : Int32) (s0 : Int64) (s1 : Int32) (m : qm_M), qe_J kp md d (f a1 a2 a3 a4 s0 s1 m) pc [(n0, .ref ka0), (n1, .int a1), (n2, .long a2), (n3, .int a3), (n4, .int a4)] [.long s0, .int s1, .ref ks2] m) : qe_BE kp md d (pc, [n0, n1, n2, n3, n4], qp_cilii_lic ka0 ks2 f) := by
  intro vs st m x e
  dsimp only at e ⊢
  unfold qp_cilii_lic at e
  split at e
  · obtain ⟨pa0, ga0⟩ := qe_b_some e
    have pa0 := Nat.eq_of_beq_eq_true pa0
    subst pa0
    obtain ⟨ps2, gs2⟩ := qe_b_some ga0
    have ps2 := Nat.eq_of_beq_eq_true ps2
    subst ps2
    exact h _ _ _ _ _ _ _ _ gs2
  · cases e
def qp_cill_ (ka0 : Nat) (f : Int32 → Int64 → Int64 → qm_M → Option qm_R) : qe_P := fun vs st m => match vs, st with
  | [.ref a0, .int a1, .long a2, .long a3], [] => qe_b (Nat.beq a0 ka0) (f a1 a2 a3 m)
  | _, _ => none
theorem qp_cill__ok {kp : pm_K} {md : pm_M} {d pc : Nat} {n0 n1 n2 n3 : Nat} {ka0 : Nat} {f : Int32 → Int64 → Int64 → qm_M → Option qm_R} (h : ∀ (a1 : Int32) (a2 : Int64) (a3 : Int64) (m : qm_M), qe_J kp md d (f a1 a2 a3 m) pc [(n0, .ref ka0), (n1, .int a1), (n2, .long a2), (n3, .long a3)] [] m) : qe_BE kp md d (pc, [n0, n1, n2, n3], qp_cill_ ka0 f) := by
  intro vs st m x e
  dsimp only at e ⊢
  unfold qp_cill_ at e
  split at e
  · obtain ⟨pa0, ga0⟩ := qe_b_some e
    have pa0 := Nat.eq_of_beq_eq_true pa0
    subst pa0
    exact h _ _ _ _ _ ga0
  · cases e
def qp_cilli_ (ka0 : Nat) (f : Int32 → Int64 → Int64 → Int32 → qm_M → Option qm_R) : qe_P := fun vs st m => match vs, st with
  | [.ref a0, .int a1, .long a2, .long a3, .int a4], [] => qe_b (Nat.beq a0 ka0) (f a1 a2 a3 a4 m)
  | _, _ => none
theorem qp_cilli__ok {kp : pm_K} {md : pm_M} {d pc : Nat} {n0 n1 n2 n3 n4 : Nat} {ka0 : Nat} {f : Int32 → Int64 → Int64 → Int32 → qm_M → Option qm_R} (h : ∀ (a1 : Int32) (a2 : Int64) (a3 : Int64) (a4 : Int32) (m : qm_M), qe_J kp md d (f a1 a2 a3 a4 m) pc [(n0, .ref ka0), (n1, .int a1), (n2, .long a2), (n3, .long a3), (n4, .int a4)] [] m) : qe_BE kp md d (pc, [n0, n1, n2, n3, n4], qp_cilli_ ka0 f) := by
  intro vs st m x e
  dsimp only at e ⊢
  unfold qp_cilli_ at e
  split at e
  · obtain ⟨pa0, ga0⟩ := qe_b_some e
    have pa0 := Nat.eq_of_beq_eq_true pa0
    subst pa0
    exact h _ _ _ _ _ _ ga0
  · cases e
def qp_cillilli_ (ka0 : Nat) (f : Int32 → Int64 → Int64 → Int32 → Int64 → Int64 → Int32 → qm_M → Option qm_R) : qe_P := fun vs st m => match vs, st with
  | [.ref a0, .int a1, .long a2, .long a3, .int a4, .long a5, .long a6, .int a7], [] => qe_b (Nat.beq a0 ka0) (f a1 a2 a3 a4 a5 a6 a7 m)
  | _, _ => none
theorem qp_cillilli__ok {kp : pm_K} {md : pm_M} {d pc : Nat} {n0 n1 n2 n3 n4 n5 n6 n7 : Nat} {ka0 : Nat} {f : Int32 → Int64 → Int64 → Int32 → Int64 → Int64 → Int32 → qm_M → Option qm_R} (h : ∀ (a1 : Int32) (a2 : Int64) (a3 : Int64) (a4 : Int32) (a5 : Int64) (a6 : Int64) (a7 : Int32) (m : qm_M), qe_J kp md d (f a1 a2 a3 a4 a5 a6 a7 m) pc [(n0, .ref ka0), (n1, .int a1), (n2, .long a2), (n3, .long a3), (n4, .int a4), (n5, .long a5), (n6, .long a6), (n7, .int a7)] [] m) : qe_BE kp md d (pc, [n0, n1, n2, n3, n4, n5, n6, n7], qp_cillilli_ ka0 f) := by
  intro vs st m x e
  dsimp only at e ⊢
  unfold qp_cillilli_ at e
  split at e
  · obtain ⟨pa0, ga0⟩ := qe_b_some e
    have pa0 := Nat.eq_of_beq_eq_true pa0
    subst pa0
    exact h _ _ _ _ _ _ _ _ _ ga0
  · cases e
def qp_ciri_ (ka0 : Nat) (f : Int32 → Nat → Int32 → qm_M → Option qm_R) : qe_P := fun vs st m => match vs, st with
  | [.ref a0, .int a1, .ref a2, .int a3], [] => qe_b (Nat.beq a0 ka0) (f a1 a2 a3 m)
  | _, _ => none
theorem qp_ciri__ok {kp : pm_K} {md : pm_M} {d pc : Nat} {n0 n1 n2 n3 : Nat} {ka0 : Nat} {f : Int32 → Nat → Int32 → qm_M → Option qm_R} (h : ∀ (a1 : Int32) (a2 : Nat) (a3 : Int32) (m : qm_M), qe_J kp md d (f a1 a2 a3 m) pc [(n0, .ref ka0), (n1, .int a1), (n2, .ref a2), (n3, .int a3)] [] m) : qe_BE kp md d (pc, [n0, n1, n2, n3], qp_ciri_ ka0 f) := by
  intro vs st m x e
  dsimp only at e ⊢
  unfold qp_ciri_ at e
  split at e
  · obtain ⟨pa0, ga0⟩ := qe_b_some e
    have pa0 := Nat.eq_of_beq_eq_true pa0
    subst pa0
    exact h _ _ _ _ _ ga0
  · cases e
def qp_cli_ (ka0 : Nat) (f : Int64 → Int32 → qm_M → Option qm_R) : qe_P := fun vs st m => match vs, st with
  | [.ref a0, .long a1, .int a2], [] => qe_b (Nat.beq a0 ka0) (f a1 a2 m)
  | _, _ => none
theorem qp_cli__ok {kp : pm_K} {md : pm_M} {d pc : Nat} {n0 n1 n2 : Nat} {ka0 : Nat} {f : Int64 → Int32 → qm_M → Option qm_R} (h : ∀ (a1 : Int64) (a2 : Int32) (m : qm_M), qe_J kp md d (f a1 a2 m) pc [(n0, .ref ka0), (n1, .long a1), (n2, .int a2)] [] m) : qe_BE kp md d (pc, [n0, n1, n2], qp_cli_ ka0 f) := by
  intro vs st m x e
  dsimp only at e ⊢
  unfold qp_cli_ at e
  split at e
  · obtain ⟨pa0, ga0⟩ := qe_b_some e
    have pa0 := Nat.eq_of_beq_eq_true pa0
    subst pa0
    exact h _ _ _ _ ga0
  · cases e
def qp_clii_ (ka0 : Nat) (f : Int64 → Int32 → Int32 → qm_M → Option qm_R) : qe_P := fun vs st m => match vs, st with
  | [.ref a0, .long a1, .int a2, .int a3], [] => qe_b (Nat.beq a0 ka0) (f a1 a2 a3 m)
  | _, _ => none
theorem qp_clii__ok {kp : pm_K} {md : pm_M} {d pc : Nat} {n0 n1 n2 n3 : Nat} {ka0 : Nat} {f : Int64 → Int32 → Int32 → qm_M → Option qm_R} (h : ∀ (a1 : Int64) (a2 : Int32) (a3 : Int32) (m : qm_M), qe_J kp md d (f a1 a2 a3 m) pc [(n0, .ref ka0), (n1, .long a1), (n2, .int a2), (n3, .int a3)] [] m) : qe_BE kp md d (pc, [n0, n1, n2, n3], qp_clii_ ka0 f) := by
  intro vs st m x e
  dsimp only at e ⊢
  unfold qp_clii_ at e
  split at e
  · obtain ⟨pa0, ga0⟩ := qe_b_some e
    have pa0 := Nat.eq_of_beq_eq_true pa0
    subst pa0
    exact h _ _ _ _ _ ga0
  · cases e
def qp_cliii_ (ka0 : Nat) (f : Int64 → Int32 → Int32 → Int32 → qm_M → Option qm_R) : qe_P := fun vs st m => match vs, st with
  | [.ref a0, .long a1, .int a2, .int a3, .int a4], [] => qe_b (Nat.beq a0 ka0) (f a1 a2 a3 a4 m)
  | _, _ => none
theorem qp_cliii__ok {kp : pm_K} {md : pm_M} {d pc : Nat} {n0 n1 n2 n3 n4 : Nat} {ka0 : Nat} {f : Int64 → Int32 → Int32 → Int32 → qm_M → Option qm_R} (h : ∀ (a1 : Int64) (a2 : Int32) (a3 : Int32) (a4 : Int32) (m : qm_M), qe_J kp md d (f a1 a2 a3 a4 m) pc [(n0, .ref ka0), (n1, .long a1), (n2, .int a2), (n3, .int a3), (n4, .int a4)] [] m) : qe_BE kp md d (pc, [n0, n1, n2, n3, n4], qp_cliii_ ka0 f) := by
  intro vs st m x e
  dsimp only at e ⊢
  unfold qp_cliii_ at e
  split at e
  · obtain ⟨pa0, ga0⟩ := qe_b_some e
    have pa0 := Nat.eq_of_beq_eq_true pa0
    subst pa0
    exact h _ _ _ _ _ _ ga0
  · cases e
def qp_clil_ (ka0 : Nat) (f : Int64 → Int32 → Int64 → qm_M → Option qm_R) : qe_P := fun vs st m => match vs, st with
  | [.ref a0, .long a1, .int a2, .long a3], [] => qe_b (Nat.beq a0 ka0) (f a1 a2 a3 m)
  | _, _ => none
theorem qp_clil__ok {kp : pm_K} {md : pm_M} {d pc : Nat} {n0 n1 n2 n3 : Nat} {ka0 : Nat} {f : Int64 → Int32 → Int64 → qm_M → Option qm_R} (h : ∀ (a1 : Int64) (a2 : Int32) (a3 : Int64) (m : qm_M), qe_J kp md d (f a1 a2 a3 m) pc [(n0, .ref ka0), (n1, .long a1), (n2, .int a2), (n3, .long a3)] [] m) : qe_BE kp md d (pc, [n0, n1, n2, n3], qp_clil_ ka0 f) := by
  intro vs st m x e
  dsimp only at e ⊢
  unfold qp_clil_ at e
  split at e
  · obtain ⟨pa0, ga0⟩ := qe_b_some e
    have pa0 := Nat.eq_of_beq_eq_true pa0
    subst pa0
    exact h _ _ _ _ _ ga0
  · cases e
def qp_clili_ (ka0 : Nat) (f : Int64 → Int32 → Int64 → Int32 → qm_M → Option qm_R) : qe_P := fun vs st m => match vs, st with
  | [.ref a0, .long a1, .int a2, .long a3, .int a4], [] => qe_b (Nat.beq a0 ka0) (f a1 a2 a3 a4 m)
  | _, _ => none
theorem qp_clili__ok {kp : pm_K} {md : pm_M} {d pc : Nat} {n0 n1 n2 n3 n4 : Nat} {ka0 : Nat} {f : Int64 → Int32 → Int64 → Int32 → qm_M → Option qm_R} (h : ∀ (a1 : Int64) (a2 : Int32) (a3 : Int64) (a4 : Int32) (m : qm_M), qe_J kp md d (f a1 a2 a3 a4 m) pc [(n0, .ref ka0), (n1, .long a1), (n2, .int a2), (n3, .long a3), (n4, .int a4)] [] m) : qe_BE kp md d (pc, [n0, n1, n2, n3, n4], qp_clili_ ka0 f) := by
  intro vs st m x e
  dsimp only at e ⊢
  unfold qp_clili_ at e
  split at e
  · obtain ⟨pa0, ga0⟩ := qe_b_some e
    have pa0 := Nat.eq_of_beq_eq_true pa0
    subst pa0
    exact h _ _ _ _ _ _ ga0
  · cases e
def qp_cll_ (ka0 : Nat) (f : Int64 → Int64 → qm_M → Option qm_R) : qe_P := fun vs st m => match vs, st with
  | [.ref a0, .long a1, .long a2], [] => qe_b (Nat.beq a0 ka0) (f a1 a2 m)
  | _, _ => none
theorem qp_cll__ok {kp : pm_K} {md : pm_M} {d pc : Nat} {n0 n1 n2 : Nat} {ka0 : Nat} {f : Int64 → Int64 → qm_M → Option qm_R} (h : ∀ (a1 : Int64) (a2 : Int64) (m : qm_M), qe_J kp md d (f a1 a2 m) pc [(n0, .ref ka0), (n1, .long a1), (n2, .long a2)] [] m) : qe_BE kp md d (pc, [n0, n1, n2], qp_cll_ ka0 f) := by
  intro vs st m x e
  dsimp only at e ⊢
  unfold qp_cll_ at e
  split at e
  · obtain ⟨pa0, ga0⟩ := qe_b_some e
    have pa0 := Nat.eq_of_beq_eq_true pa0
    subst pa0
    exact h _ _ _ _ ga0
  · cases e
def qp_clli_ (ka0 : Nat) (f : Int64 → Int64 → Int32 → qm_M → Option qm_R) : qe_P := fun vs st m => match vs, st with
  | [.ref a0, .long a1, .long a2, .int a3], [] => qe_b (Nat.beq a0 ka0) (f a1 a2 a3 m)
  | _, _ => none
theorem qp_clli__ok {kp : pm_K} {md : pm_M} {d pc : Nat} {n0 n1 n2 n3 : Nat} {ka0 : Nat} {f : Int64 → Int64 → Int32 → qm_M → Option qm_R} (h : ∀ (a1 : Int64) (a2 : Int64) (a3 : Int32) (m : qm_M), qe_J kp md d (f a1 a2 a3 m) pc [(n0, .ref ka0), (n1, .long a1), (n2, .long a2), (n3, .int a3)] [] m) : qe_BE kp md d (pc, [n0, n1, n2, n3], qp_clli_ ka0 f) := by
  intro vs st m x e
  dsimp only at e ⊢
  unfold qp_clli_ at e
  split at e
  · obtain ⟨pa0, ga0⟩ := qe_b_some e
    have pa0 := Nat.eq_of_beq_eq_true pa0
    subst pa0
    exact h _ _ _ _ _ ga0
  · cases e
def qp_cllilli_ (ka0 : Nat) (f : Int64 → Int64 → Int32 → Int64 → Int64 → Int32 → qm_M → Option qm_R) : qe_P := fun vs st m => match vs, st with
  | [.ref a0, .long a1, .long a2, .int a3, .long a4, .long a5, .int a6], [] => qe_b (Nat.beq a0 ka0) (f a1 a2 a3 a4 a5 a6 m)
  | _, _ => none
theorem qp_cllilli__ok {kp : pm_K} {md : pm_M} {d pc : Nat} {n0 n1 n2 n3 n4 n5 n6 : Nat} {ka0 : Nat} {f : Int64 → Int64 → Int32 → Int64 → Int64 → Int32 → qm_M → Option qm_R} (h : ∀ (a1 : Int64) (a2 : Int64) (a3 : Int32) (a4 : Int64) (a5 : Int64) (a6 : Int32) (m : qm_M), qe_J kp md d (f a1 a2 a3 a4 a5 a6 m) pc [(n0, .ref ka0), (n1, .long a1), (n2, .long a2), (n3, .int a3), (n4, .long a4), (n5, .long a5), (n6, .int a6)] [] m) : qe_BE kp md d (pc, [n0, n1, n2, n3, n4, n5, n6], qp_cllilli_ ka0 f) := by
  intro vs st m x e
  dsimp only at e ⊢
  unfold qp_cllilli_ at e
  split at e
  · obtain ⟨pa0, ga0⟩ := qe_b_some e
    have pa0 := Nat.eq_of_beq_eq_true pa0
    subst pa0
    exact h _ _ _ _ _ _ _ _ ga0
  · cases e
def qp_clll_ (ka0 : Nat) (f : Int64 → Int64 → Int64 → qm_M → Option qm_R) : qe_P := fun vs st m => match vs, st with
  | [.ref a0, .long a1, .long a2, .long a3], [] => qe_b (Nat.beq a0 ka0) (f a1 a2 a3 m)
  | _, _ => none
theorem qp_clll__ok {kp : pm_K} {md : pm_M} {d pc : Nat} {n0 n1 n2 n3 : Nat} {ka0 : Nat} {f : Int64 → Int64 → Int64 → qm_M → Option qm_R} (h : ∀ (a1 : Int64) (a2 : Int64) (a3 : Int64) (m : qm_M), qe_J kp md d (f a1 a2 a3 m) pc [(n0, .ref ka0), (n1, .long a1), (n2, .long a2), (n3, .long a3)] [] m) : qe_BE kp md d (pc, [n0, n1, n2, n3], qp_clll_ ka0 f) := by
  intro vs st m x e
  dsimp only at e ⊢
  unfold qp_clll_ at e
  split at e
  · obtain ⟨pa0, ga0⟩ := qe_b_some e
    have pa0 := Nat.eq_of_beq_eq_true pa0
    subst pa0
    exact h _ _ _ _ _ ga0
  · cases e
def qp_cllli_ (ka0 : Nat) (f : Int64 → Int64 → Int64 → Int32 → qm_M → Option qm_R) : qe_P := fun vs st m => match vs, st with
  | [.ref a0, .long a1, .long a2, .long a3, .int a4], [] => qe_b (Nat.beq a0 ka0) (f a1 a2 a3 a4 m)
  | _, _ => none
theorem qp_cllli__ok {kp : pm_K} {md : pm_M} {d pc : Nat} {n0 n1 n2 n3 n4 : Nat} {ka0 : Nat} {f : Int64 → Int64 → Int64 → Int32 → qm_M → Option qm_R} (h : ∀ (a1 : Int64) (a2 : Int64) (a3 : Int64) (a4 : Int32) (m : qm_M), qe_J kp md d (f a1 a2 a3 a4 m) pc [(n0, .ref ka0), (n1, .long a1), (n2, .long a2), (n3, .long a3), (n4, .int a4)] [] m) : qe_BE kp md d (pc, [n0, n1, n2, n3, n4], qp_cllli_ ka0 f) := by
  intro vs st m x e
  dsimp only at e ⊢
  unfold qp_cllli_ at e
  split at e
  · obtain ⟨pa0, ga0⟩ := qe_b_some e
    have pa0 := Nat.eq_of_beq_eq_true pa0
    subst pa0
    exact h _ _ _ _ _ _ ga0
  · cases e
def qp_cri_ (ka0 : Nat) (f : Nat → Int32 → qm_M → Option qm_R) : qe_P := fun vs st m => match vs, st with
  | [.ref a0, .ref a1, .int a2], [] => qe_b (Nat.beq a0 ka0) (f a1 a2 m)
  | _, _ => none
theorem qp_cri__ok {kp : pm_K} {md : pm_M} {d pc : Nat} {n0 n1 n2 : Nat} {ka0 : Nat} {f : Nat → Int32 → qm_M → Option qm_R} (h : ∀ (a1 : Nat) (a2 : Int32) (m : qm_M), qe_J kp md d (f a1 a2 m) pc [(n0, .ref ka0), (n1, .ref a1), (n2, .int a2)] [] m) : qe_BE kp md d (pc, [n0, n1, n2], qp_cri_ ka0 f) := by
  intro vs st m x e
  dsimp only at e ⊢
  unfold qp_cri_ at e
  split at e
  · obtain ⟨pa0, ga0⟩ := qe_b_some e
    have pa0 := Nat.eq_of_beq_eq_true pa0
    subst pa0
    exact h _ _ _ _ ga0
  · cases e
def qp_crri_ (ka0 : Nat) (f : Nat → Nat → Int32 → qm_M → Option qm_R) : qe_P := fun vs st m => match vs, st with
  | [.ref a0, .ref a1, .ref a2, .int a3], [] => qe_b (Nat.beq a0 ka0) (f a1 a2 a3 m)
  | _, _ => none
theorem qp_crri__ok {kp : pm_K} {md : pm_M} {d pc : Nat} {n0 n1 n2 n3 : Nat} {ka0 : Nat} {f : Nat → Nat → Int32 → qm_M → Option qm_R} (h : ∀ (a1 : Nat) (a2 : Nat) (a3 : Int32) (m : qm_M), qe_J kp md d (f a1 a2 a3 m) pc [(n0, .ref ka0), (n1, .ref a1), (n2, .ref a2), (n3, .int a3)] [] m) : qe_BE kp md d (pc, [n0, n1, n2, n3], qp_crri_ ka0 f) := by
  intro vs st m x e
  dsimp only at e ⊢
  unfold qp_crri_ at e
  split at e
  · obtain ⟨pa0, ga0⟩ := qe_b_some e
    have pa0 := Nat.eq_of_beq_eq_true pa0
    subst pa0
    exact h _ _ _ _ _ ga0
  · cases e
def qp_crrii_ (ka0 : Nat) (f : Nat → Nat → Int32 → Int32 → qm_M → Option qm_R) : qe_P := fun vs st m => match vs, st with
  | [.ref a0, .ref a1, .ref a2, .int a3, .int a4], [] => qe_b (Nat.beq a0 ka0) (f a1 a2 a3 a4 m)
  | _, _ => none
theorem qp_crrii__ok {kp : pm_K} {md : pm_M} {d pc : Nat} {n0 n1 n2 n3 n4 : Nat} {ka0 : Nat} {f : Nat → Nat → Int32 → Int32 → qm_M → Option qm_R} (h : ∀ (a1 : Nat) (a2 : Nat) (a3 : Int32) (a4 : Int32) (m : qm_M), qe_J kp md d (f a1 a2 a3 a4 m) pc [(n0, .ref ka0), (n1, .ref a1), (n2, .ref a2), (n3, .int a3), (n4, .int a4)] [] m) : qe_BE kp md d (pc, [n0, n1, n2, n3, n4], qp_crrii_ ka0 f) := by
  intro vs st m x e
  dsimp only at e ⊢
  unfold qp_crrii_ at e
  split at e
  · obtain ⟨pa0, ga0⟩ := qe_b_some e
    have pa0 := Nat.eq_of_beq_eq_true pa0
    subst pa0
    exact h _ _ _ _ _ _ ga0
  · cases e
def qp_crrili_ (ka0 : Nat) (f : Nat → Nat → Int32 → Int64 → Int32 → qm_M → Option qm_R) : qe_P := fun vs st m => match vs, st with
  | [.ref a0, .ref a1, .ref a2, .int a3, .long a4, .int a5], [] => qe_b (Nat.beq a0 ka0) (f a1 a2 a3 a4 a5 m)
  | _, _ => none
theorem qp_crrili__ok {kp : pm_K} {md : pm_M} {d pc : Nat} {n0 n1 n2 n3 n4 n5 : Nat} {ka0 : Nat} {f : Nat → Nat → Int32 → Int64 → Int32 → qm_M → Option qm_R} (h : ∀ (a1 : Nat) (a2 : Nat) (a3 : Int32) (a4 : Int64) (a5 : Int32) (m : qm_M), qe_J kp md d (f a1 a2 a3 a4 a5 m) pc [(n0, .ref ka0), (n1, .ref a1), (n2, .ref a2), (n3, .int a3), (n4, .long a4), (n5, .int a5)] [] m) : qe_BE kp md d (pc, [n0, n1, n2, n3, n4, n5], qp_crrili_ ka0 f) := by
  intro vs st m x e
  dsimp only at e ⊢
  unfold qp_crrili_ at e
  split at e
  · obtain ⟨pa0, ga0⟩ := qe_b_some e
    have pa0 := Nat.eq_of_beq_eq_true pa0
    subst pa0
    exact h _ _ _ _ _ _ _ ga0
  · cases e
def qp_crrilili_ (ka0 : Nat) (f : Nat → Nat → Int32 → Int64 → Int32 → Int64 → Int32 → qm_M → Option qm_R) : qe_P := fun vs st m => match vs, st with
  | [.ref a0, .ref a1, .ref a2, .int a3, .long a4, .int a5, .long a6, .int a7], [] => qe_b (Nat.beq a0 ka0) (f a1 a2 a3 a4 a5 a6 a7 m)
  | _, _ => none
theorem qp_crrilili__ok {kp : pm_K} {md : pm_M} {d pc : Nat} {n0 n1 n2 n3 n4 n5 n6 n7 : Nat} {ka0 : Nat} {f : Nat → Nat → Int32 → Int64 → Int32 → Int64 → Int32 → qm_M → Option qm_R} (h : ∀ (a1 : Nat) (a2 : Nat) (a3 : Int32) (a4 : Int64) (a5 : Int32) (a6 : Int64) (a7 : Int32) (m : qm_M), qe_J kp md d (f a1 a2 a3 a4 a5 a6 a7 m) pc [(n0, .ref ka0), (n1, .ref a1), (n2, .ref a2), (n3, .int a3), (n4, .long a4), (n5, .int a5), (n6, .long a6), (n7, .int a7)] [] m) : qe_BE kp md d (pc, [n0, n1, n2, n3, n4, n5, n6, n7], qp_crrilili_ ka0 f) := by
  intro vs st m x e
  dsimp only at e ⊢
  unfold qp_crrilili_ at e
  split at e
  · obtain ⟨pa0, ga0⟩ := qe_b_some e
    have pa0 := Nat.eq_of_beq_eq_true pa0
    subst pa0
    exact h _ _ _ _ _ _ _ _ _ ga0
  · cases e
def qp_ii_ (f : Int32 → Int32 → qm_M → Option qm_R) : qe_P := fun vs st m => match vs, st with
  | [.int a0, .int a1], [] => f a0 a1 m
  | _, _ => none
theorem qp_ii__ok {kp : pm_K} {md : pm_M} {d pc : Nat} {n0 n1 : Nat} {f : Int32 → Int32 → qm_M → Option qm_R} (h : ∀ (a0 : Int32) (a1 : Int32) (m : qm_M), qe_J kp md d (f a0 a1 m) pc [(n0, .int a0), (n1, .int a1)] [] m) : qe_BE kp md d (pc, [n0, n1], qp_ii_ f) := by
  intro vs st m x e
  dsimp only at e ⊢
  unfold qp_ii_ at e
  split at e
  · exact h _ _ _ _ e
  · cases e
def qp_iii_ (f : Int32 → Int32 → Int32 → qm_M → Option qm_R) : qe_P := fun vs st m => match vs, st with
  | [.int a0, .int a1, .int a2], [] => f a0 a1 a2 m
  | _, _ => none
theorem qp_iii__ok {kp : pm_K} {md : pm_M} {d pc : Nat} {n0 n1 n2 : Nat} {f : Int32 → Int32 → Int32 → qm_M → Option qm_R} (h : ∀ (a0 : Int32) (a1 : Int32) (a2 : Int32) (m : qm_M), qe_J kp md d (f a0 a1 a2 m) pc [(n0, .int a0), (n1, .int a1), (n2, .int a2)] [] m) : qe_BE kp md d (pc, [n0, n1, n2], qp_iii_ f) := by
  intro vs st m x e
  dsimp only at e ⊢
  unfold qp_iii_ at e
  split at e
  · exact h _ _ _ _ _ e
  · cases e
def qp_iili_ (f : Int32 → Int32 → Int64 → Int32 → qm_M → Option qm_R) : qe_P := fun vs st m => match vs, st with
  | [.int a0, .int a1, .long a2, .int a3], [] => f a0 a1 a2 a3 m
  | _, _ => none
theorem qp_iili__ok {kp : pm_K} {md : pm_M} {d pc : Nat} {n0 n1 n2 n3 : Nat} {f : Int32 → Int32 → Int64 → Int32 → qm_M → Option qm_R} (h : ∀ (a0 : Int32) (a1 : Int32) (a2 : Int64) (a3 : Int32) (m : qm_M), qe_J kp md d (f a0 a1 a2 a3 m) pc [(n0, .int a0), (n1, .int a1), (n2, .long a2), (n3, .int a3)] [] m) : qe_BE kp md d (pc, [n0, n1, n2, n3], qp_iili_ f) := by
  intro vs st m x e
  dsimp only at e ⊢
  unfold qp_iili_ at e
  split at e
  · exact h _ _ _ _ _ _ e
  · cases e
def qp_iill_ (f : Int32 → Int32 → Int64 → Int64 → qm_M → Option qm_R) : qe_P := fun vs st m => match vs, st with
  | [.int a0, .int a1, .long a2, .long a3], [] => f a0 a1 a2 a3 m
  | _, _ => none
theorem qp_iill__ok {kp : pm_K} {md : pm_M} {d pc : Nat} {n0 n1 n2 n3 : Nat} {f : Int32 → Int32 → Int64 → Int64 → qm_M → Option qm_R} (h : ∀ (a0 : Int32) (a1 : Int32) (a2 : Int64) (a3 : Int64) (m : qm_M), qe_J kp md d (f a0 a1 a2 a3 m) pc [(n0, .int a0), (n1, .int a1), (n2, .long a2), (n3, .long a3)] [] m) : qe_BE kp md d (pc, [n0, n1, n2, n3], qp_iill_ f) := by
  intro vs st m x e
  dsimp only at e ⊢
  unfold qp_iill_ at e
  split at e
  · exact h _ _ _ _ _ _ e
  · cases e
def qp_il_ (f : Int32 → Int64 → qm_M → Option qm_R) : qe_P := fun vs st m => match vs, st with
  | [.int a0, .long a1], [] => f a0 a1 m
  | _, _ => none
theorem qp_il__ok {kp : pm_K} {md : pm_M} {d pc : Nat} {n0 n1 : Nat} {f : Int32 → Int64 → qm_M → Option qm_R} (h : ∀ (a0 : Int32) (a1 : Int64) (m : qm_M), qe_J kp md d (f a0 a1 m) pc [(n0, .int a0), (n1, .long a1)] [] m) : qe_BE kp md d (pc, [n0, n1], qp_il_ f) := by
  intro vs st m x e
  dsimp only at e ⊢
  unfold qp_il_ at e
  split at e
  · exact h _ _ _ _ e
  · cases e
def qp_ili_ (f : Int32 → Int64 → Int32 → qm_M → Option qm_R) : qe_P := fun vs st m => match vs, st with
  | [.int a0, .long a1, .int a2], [] => f a0 a1 a2 m
  | _, _ => none
theorem qp_ili__ok {kp : pm_K} {md : pm_M} {d pc : Nat} {n0 n1 n2 : Nat} {f : Int32 → Int64 → Int32 → qm_M → Option qm_R} (h : ∀ (a0 : Int32) (a1 : Int64) (a2 : Int32) (m : qm_M), qe_J kp md d (f a0 a1 a2 m) pc [(n0, .int a0), (n1, .long a1), (n2, .int a2)] [] m) : qe_BE kp md d (pc, [n0, n1, n2], qp_ili_ f) := by
  intro vs st m x e
  dsimp only at e ⊢
  unfold qp_ili_ at e
  split at e
  · exact h _ _ _ _ _ e
  · cases e
def qp_li_ (f : Int64 → Int32 → qm_M → Option qm_R) : qe_P := fun vs st m => match vs, st with
  | [.long a0, .int a1], [] => f a0 a1 m
  | _, _ => none
theorem qp_li__ok {kp : pm_K} {md : pm_M} {d pc : Nat} {n0 n1 : Nat} {f : Int64 → Int32 → qm_M → Option qm_R} (h : ∀ (a0 : Int64) (a1 : Int32) (m : qm_M), qe_J kp md d (f a0 a1 m) pc [(n0, .long a0), (n1, .int a1)] [] m) : qe_BE kp md d (pc, [n0, n1], qp_li_ f) := by
  intro vs st m x e
  dsimp only at e ⊢
  unfold qp_li_ at e
  split at e
  · exact h _ _ _ _ e
  · cases e
def qp_lii_ (f : Int64 → Int32 → Int32 → qm_M → Option qm_R) : qe_P := fun vs st m => match vs, st with
  | [.long a0, .int a1, .int a2], [] => f a0 a1 a2 m
  | _, _ => none
theorem qp_lii__ok {kp : pm_K} {md : pm_M} {d pc : Nat} {n0 n1 n2 : Nat} {f : Int64 → Int32 → Int32 → qm_M → Option qm_R} (h : ∀ (a0 : Int64) (a1 : Int32) (a2 : Int32) (m : qm_M), qe_J kp md d (f a0 a1 a2 m) pc [(n0, .long a0), (n1, .int a1), (n2, .int a2)] [] m) : qe_BE kp md d (pc, [n0, n1, n2], qp_lii_ f) := by
  intro vs st m x e
  dsimp only at e ⊢
  unfold qp_lii_ at e
  split at e
  · exact h _ _ _ _ _ e
  · cases e
def qp_lili_ (f : Int64 → Int32 → Int64 → Int32 → qm_M → Option qm_R) : qe_P := fun vs st m => match vs, st with
  | [.long a0, .int a1, .long a2, .int a3], [] => f a0 a1 a2 a3 m
  | _, _ => none
theorem qp_lili__ok {kp : pm_K} {md : pm_M} {d pc : Nat} {n0 n1 n2 n3 : Nat} {f : Int64 → Int32 → Int64 → Int32 → qm_M → Option qm_R} (h : ∀ (a0 : Int64) (a1 : Int32) (a2 : Int64) (a3 : Int32) (m : qm_M), qe_J kp md d (f a0 a1 a2 a3 m) pc [(n0, .long a0), (n1, .int a1), (n2, .long a2), (n3, .int a3)] [] m) : qe_BE kp md d (pc, [n0, n1, n2, n3], qp_lili_ f) := by
  intro vs st m x e
  dsimp only at e ⊢
  unfold qp_lili_ at e
  split at e
  · exact h _ _ _ _ _ _ e
  · cases e
def qp_ll_ (f : Int64 → Int64 → qm_M → Option qm_R) : qe_P := fun vs st m => match vs, st with
  | [.long a0, .long a1], [] => f a0 a1 m
  | _, _ => none
theorem qp_ll__ok {kp : pm_K} {md : pm_M} {d pc : Nat} {n0 n1 : Nat} {f : Int64 → Int64 → qm_M → Option qm_R} (h : ∀ (a0 : Int64) (a1 : Int64) (m : qm_M), qe_J kp md d (f a0 a1 m) pc [(n0, .long a0), (n1, .long a1)] [] m) : qe_BE kp md d (pc, [n0, n1], qp_ll_ f) := by
  intro vs st m x e
  dsimp only at e ⊢
  unfold qp_ll_ at e
  split at e
  · exact h _ _ _ _ e
  · cases e
def qp_lli_ (f : Int64 → Int64 → Int32 → qm_M → Option qm_R) : qe_P := fun vs st m => match vs, st with
  | [.long a0, .long a1, .int a2], [] => f a0 a1 a2 m
  | _, _ => none
theorem qp_lli__ok {kp : pm_K} {md : pm_M} {d pc : Nat} {n0 n1 n2 : Nat} {f : Int64 → Int64 → Int32 → qm_M → Option qm_R} (h : ∀ (a0 : Int64) (a1 : Int64) (a2 : Int32) (m : qm_M), qe_J kp md d (f a0 a1 a2 m) pc [(n0, .long a0), (n1, .long a1), (n2, .int a2)] [] m) : qe_BE kp md d (pc, [n0, n1, n2], qp_lli_ f) := by
  intro vs st m x e
  dsimp only at e ⊢
  unfold qp_lli_ at e
  split at e
  · exact h _ _ _ _ _ e
  · cases e
def qp_llli_ (f : Int64 → Int64 → Int64 → Int32 → qm_M → Option qm_R) : qe_P := fun vs st m => match vs, st with
  | [.long a0, .long a1, .long a2, .int a3], [] => f a0 a1 a2 a3 m
  | _, _ => none
theorem qp_llli__ok {kp : pm_K} {md : pm_M} {d pc : Nat} {n0 n1 n2 n3 : Nat} {f : Int64 → Int64 → Int64 → Int32 → qm_M → Option qm_R} (h : ∀ (a0 : Int64) (a1 : Int64) (a2 : Int64) (a3 : Int32) (m : qm_M), qe_J kp md d (f a0 a1 a2 a3 m) pc [(n0, .long a0), (n1, .long a1), (n2, .long a2), (n3, .int a3)] [] m) : qe_BE kp md d (pc, [n0, n1, n2, n3], qp_llli_ f) := by
  intro vs st m x e
  dsimp only at e ⊢
  unfold qp_llli_ at e
  split at e
  · exact h _ _ _ _ _ _ e
  · cases e
def qp_lllll_ (f : Int64 → Int64 → Int64 → Int64 → Int64 → qm_M → Option qm_R) : qe_P := fun vs st m => match vs, st with
  | [.long a0, .long a1, .long a2, .long a3, .long a4], [] => f a0 a1 a2 a3 a4 m
  | _, _ => none
theorem qp_lllll__ok {kp : pm_K} {md : pm_M} {d pc : Nat} {n0 n1 n2 n3 n4 : Nat} {f : Int64 → Int64 → Int64 → Int64 → Int64 → qm_M → Option qm_R} (h : ∀ (a0 : Int64) (a1 : Int64) (a2 : Int64) (a3 : Int64) (a4 : Int64) (m : qm_M), qe_J kp md d (f a0 a1 a2 a3 a4 m) pc [(n0, .long a0), (n1, .long a1), (n2, .long a2), (n3, .long a3), (n4, .long a4)] [] m) : qe_BE kp md d (pc, [n0, n1, n2, n3, n4], qp_lllll_ f) := by
  intro vs st m x e
  dsimp only at e ⊢
  unfold qp_lllll_ at e
  split at e
  · exact h _ _ _ _ _ _ _ e
  · cases e
def qp_llllli_ (f : Int64 → Int64 → Int64 → Int64 → Int64 → Int32 → qm_M → Option qm_R) : qe_P := fun vs st m => match vs, st with
  | [.long a0, .long a1, .long a2, .long a3, .long a4, .int a5], [] => f a0 a1 a2 a3 a4 a5 m
  | _, _ => none
theorem qp_llllli__ok {kp : pm_K} {md : pm_M} {d pc : Nat} {n0 n1 n2 n3 n4 n5 : Nat} {f : Int64 → Int64 → Int64 → Int64 → Int64 → Int32 → qm_M → Option qm_R} (h : ∀ (a0 : Int64) (a1 : Int64) (a2 : Int64) (a3 : Int64) (a4 : Int64) (a5 : Int32) (m : qm_M), qe_J kp md d (f a0 a1 a2 a3 a4 a5 m) pc [(n0, .long a0), (n1, .long a1), (n2, .long a2), (n3, .long a3), (n4, .long a4), (n5, .int a5)] [] m) : qe_BE kp md d (pc, [n0, n1, n2, n3, n4, n5], qp_llllli_ f) := by
  intro vs st m x e
  dsimp only at e ⊢
  unfold qp_llllli_ at e
  split at e
  · exact h _ _ _ _ _ _ _ _ e
  · cases e
def qp_ri_ (f : Nat → Int32 → qm_M → Option qm_R) : qe_P := fun vs st m => match vs, st with
  | [.ref a0, .int a1], [] => f a0 a1 m
  | _, _ => none
theorem qp_ri__ok {kp : pm_K} {md : pm_M} {d pc : Nat} {n0 n1 : Nat} {f : Nat → Int32 → qm_M → Option qm_R} (h : ∀ (a0 : Nat) (a1 : Int32) (m : qm_M), qe_J kp md d (f a0 a1 m) pc [(n0, .ref a0), (n1, .int a1)] [] m) : qe_BE kp md d (pc, [n0, n1], qp_ri_ f) := by
  intro vs st m x e
  dsimp only at e ⊢
  unfold qp_ri_ at e
  split at e
  · exact h _ _ _ _ e
  · cases e
def qp_rii_ (f : Nat → Int32 → Int32 → qm_M → Option qm_R) : qe_P := fun vs st m => match vs, st with
  | [.ref a0, .int a1, .int a2], [] => f a0 a1 a2 m
  | _, _ => none
theorem qp_rii__ok {kp : pm_K} {md : pm_M} {d pc : Nat} {n0 n1 n2 : Nat} {f : Nat → Int32 → Int32 → qm_M → Option qm_R} (h : ∀ (a0 : Nat) (a1 : Int32) (a2 : Int32) (m : qm_M), qe_J kp md d (f a0 a1 a2 m) pc [(n0, .ref a0), (n1, .int a1), (n2, .int a2)] [] m) : qe_BE kp md d (pc, [n0, n1, n2], qp_rii_ f) := by
  intro vs st m x e
  dsimp only at e ⊢
  unfold qp_rii_ at e
  split at e
  · exact h _ _ _ _ _ e
  · cases e
def qp_riii_ (f : Nat → Int32 → Int32 → Int32 → qm_M → Option qm_R) : qe_P := fun vs st m => match vs, st with
  | [.ref a0, .int a1, .int a2, .int a3], [] => f a0 a1 a2 a3 m
  | _, _ => none
theorem qp_riii__ok {kp : pm_K} {md : pm_M} {d pc : Nat} {n0 n1 n2 n3 : Nat} {f : Nat → Int32 → Int32 → Int32 → qm_M → Option qm_R} (h : ∀ (a0 : Nat) (a1 : Int32) (a2 : Int32) (a3 : Int32) (m : qm_M), qe_J kp md d (f a0 a1 a2 a3 m) pc [(n0, .ref a0), (n1, .int a1), (n2, .int a2), (n3, .int a3)] [] m) : qe_BE kp md d (pc, [n0, n1, n2, n3], qp_riii_ f) := by
  intro vs st m x e
  dsimp only at e ⊢
  unfold qp_riii_ at e
  split at e
  · exact h _ _ _ _ _ _ e
  · cases e
def qp_rili_ (f : Nat → Int32 → Int64 → Int32 → qm_M → Option qm_R) : qe_P := fun vs st m => match vs, st with
  | [.ref a0, .int a1, .long a2, .int a3], [] => f a0 a1 a2 a3 m
  | _, _ => none
theorem qp_rili__ok {kp : pm_K} {md : pm_M} {d pc : Nat} {n0 n1 n2 n3 : Nat} {f : Nat → Int32 → Int64 → Int32 → qm_M → Option qm_R} (h : ∀ (a0 : Nat) (a1 : Int32) (a2 : Int64) (a3 : Int32) (m : qm_M), qe_J kp md d (f a0 a1 a2 a3 m) pc [(n0, .ref a0), (n1, .int a1), (n2, .long a2), (n3, .int a3)] [] m) : qe_BE kp md d (pc, [n0, n1, n2, n3], qp_rili_ f) := by
  intro vs st m x e
  dsimp only at e ⊢
  unfold qp_rili_ at e
  split at e
  · exact h _ _ _ _ _ _ e
  · cases e
def qp_ririli_ (f : Nat → Int32 → Nat → Int32 → Int64 → Int32 → qm_M → Option qm_R) : qe_P := fun vs st m => match vs, st with
  | [.ref a0, .int a1, .ref a2, .int a3, .long a4, .int a5], [] => f a0 a1 a2 a3 a4 a5 m
  | _, _ => none
theorem qp_ririli__ok {kp : pm_K} {md : pm_M} {d pc : Nat} {n0 n1 n2 n3 n4 n5 : Nat} {f : Nat → Int32 → Nat → Int32 → Int64 → Int32 → qm_M → Option qm_R} (h : ∀ (a0 : Nat) (a1 : Int32) (a2 : Nat) (a3 : Int32) (a4 : Int64) (a5 : Int32) (m : qm_M), qe_J kp md d (f a0 a1 a2 a3 a4 a5 m) pc [(n0, .ref a0), (n1, .int a1), (n2, .ref a2), (n3, .int a3), (n4, .long a4), (n5, .int a5)] [] m) : qe_BE kp md d (pc, [n0, n1, n2, n3, n4, n5], qp_ririli_ f) := by
  intro vs st m x e
  dsimp only at e ⊢
  unfold qp_ririli_ at e
  split at e
  · exact h _ _ _ _ _ _ _ _ e
  · cases e
def qp_rlli_ (f : Nat → Int64 → Int64 → Int32 → qm_M → Option qm_R) : qe_P := fun vs st m => match vs, st with
  | [.ref a0, .long a1, .long a2, .int a3], [] => f a0 a1 a2 a3 m
  | _, _ => none
theorem qp_rlli__ok {kp : pm_K} {md : pm_M} {d pc : Nat} {n0 n1 n2 n3 : Nat} {f : Nat → Int64 → Int64 → Int32 → qm_M → Option qm_R} (h : ∀ (a0 : Nat) (a1 : Int64) (a2 : Int64) (a3 : Int32) (m : qm_M), qe_J kp md d (f a0 a1 a2 a3 m) pc [(n0, .ref a0), (n1, .long a1), (n2, .long a2), (n3, .int a3)] [] m) : qe_BE kp md d (pc, [n0, n1, n2, n3], qp_rlli_ f) := by
  intro vs st m x e
  dsimp only at e ⊢
  unfold qp_rlli_ at e
  split at e
  · exact h _ _ _ _ _ _ e
  · cases e
def qp_rri_ (f : Nat → Nat → Int32 → qm_M → Option qm_R) : qe_P := fun vs st m => match vs, st with
  | [.ref a0, .ref a1, .int a2], [] => f a0 a1 a2 m
  | _, _ => none
theorem qp_rri__ok {kp : pm_K} {md : pm_M} {d pc : Nat} {n0 n1 n2 : Nat} {f : Nat → Nat → Int32 → qm_M → Option qm_R} (h : ∀ (a0 : Nat) (a1 : Nat) (a2 : Int32) (m : qm_M), qe_J kp md d (f a0 a1 a2 m) pc [(n0, .ref a0), (n1, .ref a1), (n2, .int a2)] [] m) : qe_BE kp md d (pc, [n0, n1, n2], qp_rri_ f) := by
  intro vs st m x e
  dsimp only at e ⊢
  unfold qp_rri_ at e
  split at e
  · exact h _ _ _ _ _ e
  · cases e
def qp_rrri_ (f : Nat → Nat → Nat → Int32 → qm_M → Option qm_R) : qe_P := fun vs st m => match vs, st with
  | [.ref a0, .ref a1, .ref a2, .int a3], [] => f a0 a1 a2 a3 m
  | _, _ => none
theorem qp_rrri__ok {kp : pm_K} {md : pm_M} {d pc : Nat} {n0 n1 n2 n3 : Nat} {f : Nat → Nat → Nat → Int32 → qm_M → Option qm_R} (h : ∀ (a0 : Nat) (a1 : Nat) (a2 : Nat) (a3 : Int32) (m : qm_M), qe_J kp md d (f a0 a1 a2 a3 m) pc [(n0, .ref a0), (n1, .ref a1), (n2, .ref a2), (n3, .int a3)] [] m) : qe_BE kp md d (pc, [n0, n1, n2, n3], qp_rrri_ f) := by
  intro vs st m x e
  dsimp only at e ⊢
  unfold qp_rrri_ at e
  split at e
  · exact h _ _ _ _ _ _ e
  · cases e
def qp_rrrii_ (f : Nat → Nat → Nat → Int32 → Int32 → qm_M → Option qm_R) : qe_P := fun vs st m => match vs, st with
  | [.ref a0, .ref a1, .ref a2, .int a3, .int a4], [] => f a0 a1 a2 a3 a4 m
  | _, _ => none
theorem qp_rrrii__ok {kp : pm_K} {md : pm_M} {d pc : Nat} {n0 n1 n2 n3 n4 : Nat} {f : Nat → Nat → Nat → Int32 → Int32 → qm_M → Option qm_R} (h : ∀ (a0 : Nat) (a1 : Nat) (a2 : Nat) (a3 : Int32) (a4 : Int32) (m : qm_M), qe_J kp md d (f a0 a1 a2 a3 a4 m) pc [(n0, .ref a0), (n1, .ref a1), (n2, .ref a2), (n3, .int a3), (n4, .int a4)] [] m) : qe_BE kp md d (pc, [n0, n1, n2, n3, n4], qp_rrrii_ f) := by
  intro vs st m x e
  dsimp only at e ⊢
  unfold qp_rrrii_ at e
  split at e
  · exact h _ _ _ _ _ _ _ e
  · cases e
def qp_rrriili_ (f : Nat → Nat → Nat → Int32 → Int32 → Int64 → Int32 → qm_M → Option qm_R) : qe_P := fun vs st m => match vs, st with
  | [.ref a0, .ref a1, .ref a2, .int a3, .int a4, .long a5, .int a6], [] => f a0 a1 a2 a3 a4 a5 a6 m
  | _, _ => none
theorem qp_rrriili__ok {kp : pm_K} {md : pm_M} {d pc : Nat} {n0 n1 n2 n3 n4 n5 n6 : Nat} {f : Nat → Nat → Nat → Int32 → Int32 → Int64 → Int32 → qm_M → Option qm_R} (h : ∀ (a0 : Nat) (a1 : Nat) (a2 : Nat) (a3 : Int32) (a4 : Int32) (a5 : Int64) (a6 : Int32) (m : qm_M), qe_J kp md d (f a0 a1 a2 a3 a4 a5 a6 m) pc [(n0, .ref a0), (n1, .ref a1), (n2, .ref a2), (n3, .int a3), (n4, .int a4), (n5, .long a5), (n6, .int a6)] [] m) : qe_BE kp md d (pc, [n0, n1, n2, n3, n4, n5, n6], qp_rrriili_ f) := by
  intro vs st m x e
  dsimp only at e ⊢
  unfold qp_rrriili_ at e
  split at e
  · exact h _ _ _ _ _ _ _ _ _ e
  · cases e
