/-! every run of our machine is a run of the JVM -/
def jx_gd (M : jx_M) : Prop := (∀ el ∈ M.2.2.2.2.2.2, ∃ h, jx_ok M el h = true) ∧ jx_mWords M
theorem jx_g0 : jx_gd jx_M0 := ⟨jx_okL_all jx_C0 _ jx_k0, jx_mOk_words jx_m0⟩
theorem jx_g1 : jx_gd jx_M1 := ⟨jx_okL_all jx_C1 _ jx_k1, jx_mOk_words jx_m1⟩
theorem jx_g2 : jx_gd jx_M2 := ⟨jx_okL_all jx_C2 _ jx_k2, jx_mOk_words jx_m2⟩
theorem jx_g3 : jx_gd jx_M3 := ⟨jx_okL_all jx_C3 _ jx_k3, jx_mOk_words jx_m3⟩
theorem jx_g4 : jx_gd jx_M4 := ⟨jx_okL_all jx_C4 _ jx_k4, jx_mOk_words jx_m4⟩
theorem jx_g5 : jx_gd jx_M5 := ⟨jx_okL_all jx_C5 _ jx_k5, jx_mOk_words jx_m5⟩
theorem jx_g6 : jx_gd jx_M6 := ⟨jx_okL_all jx_C6 _ jx_k6, jx_mOk_words jx_m6⟩
theorem jx_g7 : jx_gd jx_M7 := ⟨jx_okL_all jx_C7 _ jx_k7, jx_mOk_words jx_m7⟩
theorem jx_g8 : jx_gd jx_M8 := ⟨jx_okL_all jx_C8 _ jx_k8, jx_mOk_words jx_m8⟩
theorem jx_g9 : jx_gd jx_M9 := ⟨jx_okL_all jx_C9 _ jx_k9, jx_mOk_words jx_m9⟩
theorem jx_g10 : jx_gd jx_M10 := ⟨jx_okL_all jx_C10 _ jx_k10, jx_mOk_words jx_m10⟩
theorem jx_g11 : jx_gd jx_M11 := ⟨jx_okL_all jx_C11 _ jx_k11, jx_mOk_words jx_m11⟩
theorem jx_g12 : jx_gd jx_M12 := ⟨jx_okL_all jx_C12 _ jx_k12, jx_mOk_words jx_m12⟩
theorem jx_g13 : jx_gd jx_M13 := ⟨jx_okL_all jx_C13 _ jx_k13, jx_mOk_words jx_m13⟩
theorem jx_g14 : jx_gd jx_M14 := ⟨jx_okL_all jx_C14 _ jx_k14, jx_mOk_words jx_m14⟩
theorem jx_g15 : jx_gd jx_M15 := ⟨jx_okL_all jx_C15 _ jx_k15, jx_mOk_words jx_m15⟩
theorem jx_g16 : jx_gd jx_M16 := ⟨jx_okL_all jx_C16 _ jx_k16, jx_mOk_words jx_m16⟩
theorem jx_g17 : jx_gd jx_M17 := ⟨jx_okL_all jx_C17 _ jx_k17, jx_mOk_words jx_m17⟩
theorem jx_g18 : jx_gd jx_M18 := ⟨jx_okL_all jx_C18 _ jx_k18, jx_mOk_words jx_m18⟩
theorem jx_g19 : jx_gd jx_M19 := ⟨jx_okL_all jx_C19 _ jx_k19, jx_mOk_words jx_m19⟩
theorem jx_g20 : jx_gd jx_M20 := ⟨jx_okL_all jx_C20 _ jx_k20, jx_mOk_words jx_m20⟩
theorem jx_g21 : jx_gd jx_M21 := ⟨jx_okL_all jx_C21 _ jx_k21, jx_mOk_words jx_m21⟩
theorem jx_g22 : jx_gd jx_M22 := ⟨jx_okL_all jx_C22 _ jx_k22, jx_mOk_words jx_m22⟩
theorem jx_g23 : jx_gd jx_M23 := ⟨jx_okL_all jx_C23 _ jx_k23, jx_mOk_words jx_m23⟩
theorem jx_g24 : jx_gd jx_M24 := ⟨jx_okL_all jx_C24 _ jx_k24, jx_mOk_words jx_m24⟩
theorem jx_g25 : jx_gd jx_M25 := ⟨jx_okL_all jx_C25 _ jx_k25, jx_mOk_words jx_m25⟩
theorem jx_g26 : jx_gd jx_M26 := ⟨jx_okL_all jx_C26 _ jx_k26, jx_mOk_words jx_m26⟩
theorem jx_g27 : jx_gd jx_M27 := ⟨jx_okL_all jx_C27 _ jx_k27, jx_mOk_words jx_m27⟩
theorem jx_g28 : jx_gd jx_M28 := ⟨jx_okL_all jx_C28 _ jx_k28, jx_mOk_words jx_m28⟩
theorem jx_g29 : jx_gd jx_M29 := ⟨jx_okL_all jx_C29 _ jx_k29, jx_mOk_words jx_m29⟩
theorem jx_g30 : jx_gd jx_M30 := ⟨jx_okL_all jx_C30 _ jx_k30, jx_mOk_words jx_m30⟩
theorem jx_g31 : jx_gd jx_M31 := ⟨jx_okL_all jx_C31 _ jx_k31, jx_mOk_words jx_m31⟩
theorem jx_g32 : jx_gd jx_M32 := ⟨jx_okL_all jx_C32 _ jx_k32, jx_mOk_words jx_m32⟩
theorem jx_g33 : jx_gd jx_M33 := ⟨jx_okL_all jx_C33 _ jx_k33, jx_mOk_words jx_m33⟩
theorem jx_g34 : jx_gd jx_M34 := ⟨jx_okL_all jx_C34 _ jx_k34, jx_mOk_words jx_m34⟩
theorem jx_g35 : jx_gd jx_M35 := ⟨jx_okL_all jx_C35 _ jx_k35, jx_mOk_words jx_m35⟩
theorem jx_g36 : jx_gd jx_M36 := ⟨jx_okL_all jx_C36 _ jx_k36, jx_mOk_words jx_m36⟩
theorem jx_g37 : jx_gd jx_M37 := ⟨jx_okL_all jx_C37 _ jx_k37, jx_mOk_words jx_m37⟩
theorem jx_g38 : jx_gd jx_M38 := ⟨jx_okL_all jx_C38 _ jx_k38, jx_mOk_words jx_m38⟩
theorem jx_g39 : jx_gd jx_M39 := ⟨jx_okL_all jx_C39 _ jx_k39, jx_mOk_words jx_m39⟩
theorem jx_g40 : jx_gd jx_M40 := ⟨jx_okL_all jx_C40 _ jx_k40, jx_mOk_words jx_m40⟩
theorem jx_g41 : jx_gd jx_M41 := ⟨jx_okL_all jx_C41 _ jx_k41, jx_mOk_words jx_m41⟩
theorem jx_g42 : jx_gd jx_M42 := ⟨jx_okL_all jx_C42 _ jx_k42, jx_mOk_words jx_m42⟩
theorem jx_g43 : jx_gd jx_M43 := ⟨jx_okL_all jx_C43 _ jx_k43, jx_mOk_words jx_m43⟩
theorem jx_g44 : jx_gd jx_M44 := ⟨jx_okL_all jx_C44 _ jx_k44, jx_mOk_words jx_m44⟩
theorem jx_g45 : jx_gd jx_M45 := ⟨jx_okL_all jx_C45 _ jx_k45, jx_mOk_words jx_m45⟩
theorem jx_g46 : jx_gd jx_M46 := ⟨jx_okL_all jx_C46 _ jx_k46, jx_mOk_words jx_m46⟩
theorem jx_g47 : jx_gd jx_M47 := ⟨jx_okL_all jx_C47 _ jx_k47, jx_mOk_words jx_m47⟩
theorem jx_g48 : jx_gd jx_M48 := ⟨jx_okL_all jx_C48 _ jx_k48, jx_mOk_words jx_m48⟩
theorem jx_g49 : jx_gd jx_M49 := ⟨jx_okL_all jx_C49 _ jx_k49, jx_mOk_words jx_m49⟩
theorem jx_g50 : jx_gd jx_M50 := ⟨jx_okL_all jx_C50 _ jx_k50, jx_mOk_words jx_m50⟩
theorem jx_g51 : jx_gd jx_M51 := ⟨jx_okL_all jx_C51 _ jx_k51, jx_mOk_words jx_m51⟩
theorem jx_g52 : jx_gd jx_M52 := ⟨jx_okL_all jx_C52 _ jx_k52, jx_mOk_words jx_m52⟩
theorem jx_g53 : jx_gd jx_M53 := ⟨jx_okL_all jx_C53 _ jx_k53, jx_mOk_words jx_m53⟩
theorem jx_g54 : jx_gd jx_M54 := ⟨jx_okL_all jx_C54 _ jx_k54, jx_mOk_words jx_m54⟩
theorem jx_g55 : jx_gd jx_M55 := ⟨jx_okL_all jx_C55 _ jx_k55, jx_mOk_words jx_m55⟩
theorem jx_g56 : jx_gd jx_M56 := ⟨jx_okL_all jx_C56 _ jx_k56, jx_mOk_words jx_m56⟩
theorem jx_g57 : jx_gd jx_M57 := ⟨jx_okL_all jx_C57 _ jx_k57, jx_mOk_words jx_m57⟩
theorem jx_g58 : jx_gd jx_M58 := ⟨jx_okL_all jx_C58 _ jx_k58, jx_mOk_words jx_m58⟩
theorem jx_g59 : jx_gd jx_M59 := ⟨jx_okL_all jx_C59 _ jx_k59, jx_mOk_words jx_m59⟩
theorem jx_g60 : jx_gd jx_M60 := ⟨jx_okL_all jx_C60 _ jx_k60, jx_mOk_words jx_m60⟩
theorem jx_g61 : jx_gd jx_M61 := ⟨jx_okL_all jx_C61 _ jx_k61, jx_mOk_words jx_m61⟩
theorem jx_g62 : jx_gd jx_M62 := ⟨jx_okL_all jx_C62 _ jx_k62, jx_mOk_words jx_m62⟩
theorem jx_g63 : jx_gd jx_M63 := ⟨jx_okL_all jx_C63 _ jx_k63, jx_mOk_words jx_m63⟩
theorem jx_g64 : jx_gd jx_M64 := ⟨jx_okL_all jx_C64 _ jx_k64, jx_mOk_words jx_m64⟩
theorem jx_g65 : jx_gd jx_M65 := ⟨jx_okL_all jx_C65 _ jx_k65, jx_mOk_words jx_m65⟩
theorem jx_g66 : jx_gd jx_M66 := ⟨jx_okL_all jx_C66 _ jx_k66, jx_mOk_words jx_m66⟩
theorem jx_g67 : jx_gd jx_M67 := ⟨jx_okL_all jx_C67 _ jx_k67, jx_mOk_words jx_m67⟩
theorem jx_g68 : jx_gd jx_M68 := ⟨jx_okL_all jx_C68 _ jx_k68, jx_mOk_words jx_m68⟩
theorem jx_g69 : jx_gd jx_M69 := ⟨jx_okL_all jx_C69 _ jx_k69, jx_mOk_words jx_m69⟩
theorem jx_g70 : jx_gd jx_M70 := ⟨jx_okL_all jx_C70 _ jx_k70, jx_mOk_words jx_m70⟩
theorem jx_g71 : jx_gd jx_M71 := ⟨jx_okL_all jx_C71 _ jx_k71, jx_mOk_words jx_m71⟩
theorem jx_g72 : jx_gd jx_M72 := ⟨jx_okL_all jx_C72 _ jx_k72, jx_mOk_words jx_m72⟩
theorem jx_g73 : jx_gd jx_M73 := ⟨jx_okL_all jx_C73 _ jx_k73, jx_mOk_words jx_m73⟩
theorem jx_g74 : jx_gd jx_M74 := ⟨jx_okL_all jx_C74 _ jx_k74, jx_mOk_words jx_m74⟩
theorem jx_g75 : jx_gd jx_M75 := ⟨jx_okL_all jx_C75 _ jx_k75, jx_mOk_words jx_m75⟩
theorem jx_g76 : jx_gd jx_M76 := ⟨jx_okL_all jx_C76 _ jx_k76, jx_mOk_words jx_m76⟩
theorem jx_g77 : jx_gd jx_M77 := ⟨jx_okL_all jx_C77 _ jx_k77, jx_mOk_words jx_m77⟩
theorem jx_g78 : jx_gd jx_M78 := ⟨jx_okL_all jx_C78 _ jx_k78, jx_mOk_words jx_m78⟩
theorem jx_g79 : jx_gd jx_M79 := ⟨jx_okL_all jx_C79 _ jx_k79, jx_mOk_words jx_m79⟩
theorem jx_g80 : jx_gd jx_M80 := ⟨jx_okL_all jx_C80 _ jx_k80, jx_mOk_words jx_m80⟩
theorem jx_g81 : jx_gd jx_M81 := ⟨jx_okL_all jx_C81 _ jx_k81, jx_mOk_words jx_m81⟩
theorem jx_g82 : jx_gd jx_M82 := ⟨jx_okL_all jx_C82 _ jx_k82, jx_mOk_words jx_m82⟩
theorem jx_g83 : jx_gd jx_M83 := ⟨jx_okL_all jx_C83 _ jx_k83, jx_mOk_words jx_m83⟩
theorem jx_g84 : jx_gd jx_M84 := ⟨jx_okL_all jx_C84 _ jx_k84, jx_mOk_words jx_m84⟩
theorem jx_g85 : jx_gd jx_M85 := ⟨jx_okL_all jx_C85 _ jx_k85, jx_mOk_words jx_m85⟩
theorem jx_g86 : jx_gd jx_M86 := ⟨jx_okL_all jx_C86 _ jx_k86, jx_mOk_words jx_m86⟩
theorem jx_g87 : jx_gd jx_M87 := ⟨jx_okL_all jx_C87 _ jx_k87, jx_mOk_words jx_m87⟩
theorem jx_g88 : jx_gd jx_M88 := ⟨jx_okL_all jx_C88 _ jx_k88, jx_mOk_words jx_m88⟩
theorem jx_g89 : jx_gd jx_M89 := ⟨jx_okL_all jx_C89 _ jx_k89, jx_mOk_words jx_m89⟩
theorem jx_g90 : jx_gd jx_M90 := ⟨jx_okL_all jx_C90 _ jx_k90, jx_mOk_words jx_m90⟩
theorem jx_g91 : jx_gd jx_M91 := ⟨jx_okL_all jx_C91 _ jx_k91, jx_mOk_words jx_m91⟩
theorem jx_g92 : jx_gd jx_M92 := ⟨jx_okL_all jx_C92 _ jx_k92, jx_mOk_words jx_m92⟩
theorem jx_g93 : jx_gd jx_M93 := ⟨jx_okL_all jx_C93 _ jx_k93, jx_mOk_words jx_m93⟩
theorem jx_g94 : jx_gd jx_M94 := ⟨jx_okL_all jx_C94 _ jx_k94, jx_mOk_words jx_m94⟩
theorem jx_g95 : jx_gd jx_M95 := ⟨jx_okL_all jx_C95 _ jx_k95, jx_mOk_words jx_m95⟩
theorem jx_g96 : jx_gd jx_M96 := ⟨jx_okL_all jx_C96 _ jx_k96, jx_mOk_words jx_m96⟩
theorem jx_g97 : jx_gd jx_M97 := ⟨jx_okL_all jx_C97 _ jx_k97, jx_mOk_words jx_m97⟩
theorem jx_g98 : jx_gd jx_M98 := ⟨jx_okL_all jx_C98 _ jx_k98, jx_mOk_words jx_m98⟩
theorem jx_g99 : jx_gd jx_M99 := ⟨jx_okL_all jx_C99 _ jx_k99, jx_mOk_words jx_m99⟩
theorem jx_g100 : jx_gd jx_M100 := ⟨jx_okL_all jx_C100 _ jx_k100, jx_mOk_words jx_m100⟩
theorem jx_g101 : jx_gd jx_M101 := ⟨jx_okL_all jx_C101 _ jx_k101, jx_mOk_words jx_m101⟩
theorem jx_g102 : jx_gd jx_M102 := ⟨jx_okL_all jx_C102 _ jx_k102, jx_mOk_words jx_m102⟩
theorem jx_g103 : jx_gd jx_M103 := ⟨jx_okL_all jx_C103 _ jx_k103, jx_mOk_words jx_m103⟩
theorem jx_g104 : jx_gd jx_M104 := ⟨jx_okL_all jx_C104 _ jx_k104, jx_mOk_words jx_m104⟩
theorem jx_g105 : jx_gd jx_M105 := ⟨jx_okL_all jx_C105 _ jx_k105, jx_mOk_words jx_m105⟩
theorem jx_g106 : jx_gd jx_M106 := ⟨jx_okL_all jx_C106 _ jx_k106, jx_mOk_words jx_m106⟩
theorem jx_g107 : jx_gd jx_M107 := ⟨jx_okL_all jx_C107 _ jx_k107, jx_mOk_words jx_m107⟩
theorem jx_g108 : jx_gd jx_M108 := ⟨jx_okL_all jx_C108 _ jx_k108, jx_mOk_words jx_m108⟩
theorem jx_g109 : jx_gd jx_M109 := ⟨jx_okL_all jx_C109 _ jx_k109, jx_mOk_words jx_m109⟩
theorem jx_g110 : jx_gd jx_M110 := ⟨jx_okL_all jx_C110 _ jx_k110, jx_mOk_words jx_m110⟩
theorem jx_g111 : jx_gd jx_M111 := ⟨jx_okL_all jx_C111 _ jx_k111, jx_mOk_words jx_m111⟩
theorem jx_g112 : jx_gd jx_M112 := ⟨jx_okL_all jx_C112 _ jx_k112, jx_mOk_words jx_m112⟩
theorem jx_g113 : jx_gd jx_M113 := ⟨jx_okL_all jx_C113 _ jx_k113, jx_mOk_words jx_m113⟩
theorem jx_g114 : jx_gd jx_M114 := ⟨jx_okL_all jx_C114 _ jx_k114, jx_mOk_words jx_m114⟩
theorem jx_g115 : jx_gd jx_M115 := ⟨jx_okL_all jx_C115 _ jx_k115, jx_mOk_words jx_m115⟩
theorem jx_g116 : jx_gd jx_M116 := ⟨jx_okL_all jx_C116 _ jx_k116, jx_mOk_words jx_m116⟩
theorem jx_g117 : jx_gd jx_M117 := ⟨jx_okL_all jx_C117 _ jx_k117, jx_mOk_words jx_m117⟩
theorem jx_g118 : jx_gd jx_M118 := ⟨jx_okL_all jx_C118 _ jx_k118, jx_mOk_words jx_m118⟩
theorem jx_g119 : jx_gd jx_M119 := ⟨jx_okL_all jx_C119 _ jx_k119, jx_mOk_words jx_m119⟩
theorem jx_g120 : jx_gd jx_M120 := ⟨jx_okL_all jx_C120 _ jx_k120, jx_mOk_words jx_m120⟩
theorem jx_g121 : jx_gd jx_M121 := ⟨jx_okL_all jx_C121 _ jx_k121, jx_mOk_words jx_m121⟩
theorem jx_g122 : jx_gd jx_M122 := ⟨jx_okL_all jx_C122 _ jx_k122, jx_mOk_words jx_m122⟩
theorem jx_g123 : jx_gd jx_M123 := ⟨jx_okL_all jx_C123 _ jx_k123, jx_mOk_words jx_m123⟩
theorem jx_g124 : jx_gd jx_M124 := ⟨jx_okL_all jx_C124 _ jx_k124, jx_mOk_words jx_m124⟩
theorem jx_g125 : jx_gd jx_M125 := ⟨jx_okL_all jx_C125 _ jx_k125, jx_mOk_words jx_m125⟩
theorem jx_g126 : jx_gd jx_M126 := ⟨jx_okL_all jx_C126 _ jx_k126, jx_mOk_words jx_m126⟩
theorem jx_g127 : jx_gd jx_M127 := ⟨jx_okL_all jx_C127 _ jx_k127, jx_mOk_words jx_m127⟩
theorem jx_g128 : jx_gd jx_M128 := ⟨jx_okL_all jx_C128 _ jx_k128, jx_mOk_words jx_m128⟩
theorem jx_g129 : jx_gd jx_M129 := ⟨jx_okL_all jx_C129 _ jx_k129, jx_mOk_words jx_m129⟩
theorem jx_g130 : jx_gd jx_M130 := ⟨jx_okL_all jx_C130 _ jx_k130, jx_mOk_words jx_m130⟩
theorem jx_g131 : jx_gd jx_M131 := ⟨jx_okL_all jx_C131 _ jx_k131, jx_mOk_words jx_m131⟩
theorem jx_g132 : jx_gd jx_M132 := ⟨jx_okL_all jx_C132 _ jx_k132, jx_mOk_words jx_m132⟩
theorem jx_g133 : jx_gd jx_M133 := ⟨jx_okL_all jx_C133 _ jx_k133, jx_mOk_words jx_m133⟩
theorem jx_g134 : jx_gd jx_M134 := ⟨jx_okL_all jx_C134 _ jx_k134, jx_mOk_words jx_m134⟩
theorem jx_g135 : jx_gd jx_M135 := ⟨jx_okL_all jx_C135 _ jx_k135, jx_mOk_words jx_m135⟩
theorem jx_g136 : jx_gd jx_M136 := ⟨jx_okL_all jx_C136 _ jx_k136, jx_mOk_words jx_m136⟩
theorem jx_g137 : jx_gd jx_M137 := ⟨jx_okL_all jx_C137 _ jx_k137, jx_mOk_words jx_m137⟩
theorem jx_g138 : jx_gd jx_M138 := ⟨jx_okL_all jx_C138 _ jx_k138, jx_mOk_words jx_m138⟩
theorem jx_g139 : jx_gd jx_M139 := ⟨jx_okL_all jx_C139 _ jx_k139, jx_mOk_words jx_m139⟩
theorem jx_g140 : jx_gd jx_M140 := ⟨jx_okL_all jx_C140 _ jx_k140, jx_mOk_words jx_m140⟩
theorem jx_g141 : jx_gd jx_M141 := ⟨jx_okL_all jx_C141 _ jx_k141, jx_mOk_words jx_m141⟩
theorem jx_g142 : jx_gd jx_M142 := ⟨jx_okL_all jx_C142 _ jx_k142, jx_mOk_words jx_m142⟩
theorem jx_g143 : jx_gd jx_M143 := ⟨jx_okL_all jx_C143 _ jx_k143, jx_mOk_words jx_m143⟩
theorem jx_g144 : jx_gd jx_M144 := ⟨jx_okL_all jx_C144 _ jx_k144, jx_mOk_words jx_m144⟩
theorem jx_g145 : jx_gd jx_M145 := ⟨jx_okL_all jx_C145 _ jx_k145, jx_mOk_words jx_m145⟩
theorem jx_g146 : jx_gd jx_M146 := ⟨jx_okL_all jx_C146 _ jx_k146, jx_mOk_words jx_m146⟩
theorem jx_g147 : jx_gd jx_M147 := ⟨jx_okL_all jx_C147 _ jx_k147, jx_mOk_words jx_m147⟩
theorem jx_g148 : jx_gd jx_M148 := ⟨jx_okL_all jx_C148 _ jx_k148, jx_mOk_words jx_m148⟩
theorem jx_g149 : jx_gd jx_M149 := ⟨jx_okL_all jx_C149 _ jx_k149, jx_mOk_words jx_m149⟩
theorem jx_g150 : jx_gd jx_M150 := ⟨jx_okL_all jx_C150 _ jx_k150, jx_mOk_words jx_m150⟩
theorem jx_g151 : jx_gd jx_M151 := ⟨jx_okL_all jx_C151 _ jx_k151, jx_mOk_words jx_m151⟩
theorem jx_g152 : jx_gd jx_M152 := ⟨jx_okL_all jx_C152 _ jx_k152, jx_mOk_words jx_m152⟩
theorem jx_g153 : jx_gd jx_M153 := ⟨jx_okL_all jx_C153 _ jx_k153, jx_mOk_words jx_m153⟩
theorem jx_g154 : jx_gd jx_M154 := ⟨jx_okL_all jx_C154 _ jx_k154, jx_mOk_words jx_m154⟩
theorem jx_g155 : jx_gd jx_M155 := ⟨jx_okL_all jx_C155 _ jx_k155, jx_mOk_words jx_m155⟩
theorem jx_g156 : jx_gd jx_M156 := ⟨jx_okL_all jx_C156 _ jx_k156, jx_mOk_words jx_m156⟩
theorem jx_g157 : jx_gd jx_M157 := ⟨jx_okL_all jx_C157 _ jx_k157, jx_mOk_words jx_m157⟩
theorem jx_g158 : jx_gd jx_M158 := ⟨jx_okL_all jx_C158 _ jx_k158, jx_mOk_words jx_m158⟩
theorem jx_g159 : jx_gd jx_M159 := ⟨jx_okL_all jx_C159 _ jx_k159, jx_mOk_words jx_m159⟩
theorem jx_g160 : jx_gd jx_M160 := ⟨jx_okL_all jx_C160 _ jx_k160, jx_mOk_words jx_m160⟩
theorem jx_g161 : jx_gd jx_M161 := ⟨jx_okL_all jx_C161 _ jx_k161, jx_mOk_words jx_m161⟩
theorem jx_g162 : jx_gd jx_M162 := ⟨jx_okL_all jx_C162 _ jx_k162, jx_mOk_words jx_m162⟩
theorem jx_g163 : jx_gd jx_M163 := ⟨jx_okL_all jx_C163 _ jx_k163, jx_mOk_words jx_m163⟩
theorem jx_g164 : jx_gd jx_M164 := ⟨jx_okL_all jx_C164 _ jx_k164, jx_mOk_words jx_m164⟩
theorem jx_g165 : jx_gd jx_M165 := ⟨jx_okL_all jx_C165 _ jx_k165, jx_mOk_words jx_m165⟩
theorem jx_g166 : jx_gd jx_M166 := ⟨jx_okL_all jx_C166 _ jx_k166, jx_mOk_words jx_m166⟩
theorem jx_g167 : jx_gd jx_M167 := ⟨jx_okL_all jx_C167 _ jx_k167, jx_mOk_words jx_m167⟩
theorem jx_g168 : jx_gd jx_M168 := ⟨jx_okL_all jx_C168 _ jx_k168, jx_mOk_words jx_m168⟩
theorem jx_g169 : jx_gd jx_M169 := ⟨jx_okL_all jx_C169 _ jx_k169, jx_mOk_words jx_m169⟩
theorem jx_g170 : jx_gd jx_M170 := ⟨jx_okL_all jx_C170 _ jx_k170, jx_mOk_words jx_m170⟩
theorem jx_g171 : jx_gd jx_M171 := ⟨jx_okL_all jx_C171 _ jx_k171, jx_mOk_words jx_m171⟩
theorem jx_g172 : jx_gd jx_M172 := ⟨jx_okL_all jx_C172 _ jx_k172, jx_mOk_words jx_m172⟩
theorem jx_g173 : jx_gd jx_M173 := ⟨jx_okL_all jx_C173 _ jx_k173, jx_mOk_words jx_m173⟩
theorem jx_g174 : jx_gd jx_M174 := ⟨jx_okL_all jx_C174 _ jx_k174, jx_mOk_words jx_m174⟩
theorem jx_g175 : jx_gd jx_M175 := ⟨jx_okL_all jx_C175 _ jx_k175, jx_mOk_words jx_m175⟩
theorem jx_g176 : jx_gd jx_M176 := ⟨jx_okL_all jx_C176 _ jx_k176, jx_mOk_words jx_m176⟩
theorem jx_g177 : jx_gd jx_M177 := ⟨jx_okL_all jx_C177 _ jx_k177, jx_mOk_words jx_m177⟩
theorem jx_g178 : jx_gd jx_M178 := ⟨jx_okL_all jx_C178 _ jx_k178, jx_mOk_words jx_m178⟩
theorem jx_g179 : jx_gd jx_M179 := ⟨jx_okL_all jx_C179 _ jx_k179, jx_mOk_words jx_m179⟩
theorem jx_g180 : jx_gd jx_M180 := ⟨jx_okL_all jx_C180 _ jx_k180, jx_mOk_words jx_m180⟩
theorem jx_g181 : jx_gd jx_M181 := ⟨jx_okL_all jx_C181 _ jx_k181, jx_mOk_words jx_m181⟩
theorem jx_g182 : jx_gd jx_M182 := ⟨jx_okL_all jx_C182 _ jx_k182, jx_mOk_words jx_m182⟩
theorem jx_g183 : jx_gd jx_M183 := ⟨jx_okL_all jx_C183 _ jx_k183, jx_mOk_words jx_m183⟩
theorem jx_g184 : jx_gd jx_M184 := ⟨jx_okL_all jx_C184 _ jx_k184, jx_mOk_words jx_m184⟩
theorem jx_g185 : jx_gd jx_M185 := ⟨jx_okL_all jx_C185 _ jx_k185, jx_mOk_words jx_m185⟩
theorem jx_g186 : jx_gd jx_M186 := ⟨jx_okL_all jx_C186 _ jx_k186, jx_mOk_words jx_m186⟩
theorem jx_g187 : jx_gd jx_M187 := ⟨jx_okL_all jx_C187 _ jx_k187, jx_mOk_words jx_m187⟩
theorem jx_g188 : jx_gd jx_M188 := ⟨jx_okL_all jx_C188 _ jx_k188, jx_mOk_words jx_m188⟩
theorem jx_g189 : jx_gd jx_M189 := ⟨jx_okL_all jx_C189 _ jx_k189, jx_mOk_words jx_m189⟩
theorem jx_g190 : jx_gd jx_M190 := ⟨jx_okL_all jx_C190 _ jx_k190, jx_mOk_words jx_m190⟩
theorem jx_g191 : jx_gd jx_M191 := ⟨jx_okL_all jx_C191 _ jx_k191, jx_mOk_words jx_m191⟩
theorem jx_g192 : jx_gd jx_M192 := ⟨jx_okL_all jx_C192 _ jx_k192, jx_mOk_words jx_m192⟩
theorem jx_g193 : jx_gd jx_M193 := ⟨jx_okL_all jx_C193 _ jx_k193, jx_mOk_words jx_m193⟩
theorem jx_g194 : jx_gd jx_M194 := ⟨jx_okL_all jx_C194 _ jx_k194, jx_mOk_words jx_m194⟩
theorem jx_g195 : jx_gd jx_M195 := ⟨jx_okL_all jx_C195 _ jx_k195, jx_mOk_words jx_m195⟩
theorem jx_g196 : jx_gd jx_M196 := ⟨jx_okL_all jx_C196 _ jx_k196, jx_mOk_words jx_m196⟩
theorem jx_g197 : jx_gd jx_M197 := ⟨jx_okL_all jx_C197 _ jx_k197, jx_mOk_words jx_m197⟩
theorem jx_g198 : jx_gd jx_M198 := ⟨jx_okL_all jx_C198 _ jx_k198, jx_mOk_words jx_m198⟩
theorem jx_g199 : jx_gd jx_M199 := ⟨jx_okL_all jx_C199 _ jx_k199, jx_mOk_words jx_m199⟩
theorem jx_g200 : jx_gd jx_M200 := ⟨jx_okL_all jx_C200 _ jx_k200, jx_mOk_words jx_m200⟩
theorem jx_g201 : jx_gd jx_M201 := ⟨jx_okL_all jx_C201 _ jx_k201, jx_mOk_words jx_m201⟩
theorem jx_g202 : jx_gd jx_M202 := ⟨jx_okL_all jx_C202 _ jx_k202, jx_mOk_words jx_m202⟩
theorem jx_g203 : jx_gd jx_M203 := ⟨jx_okL_all jx_C203 _ jx_k203, jx_mOk_words jx_m203⟩
theorem jx_g204 : jx_gd jx_M204 := ⟨jx_okL_all jx_C204 _ jx_k204, jx_mOk_words jx_m204⟩
theorem jx_g205 : jx_gd jx_M205 := ⟨jx_okL_all jx_C205 _ jx_k205, jx_mOk_words jx_m205⟩
theorem jx_g206 : jx_gd jx_M206 := ⟨jx_okL_all jx_C206 _ jx_k206, jx_mOk_words jx_m206⟩
theorem jx_g207 : jx_gd jx_M207 := ⟨jx_okL_all jx_C207 _ jx_k207, jx_mOk_words jx_m207⟩
theorem jx_g208 : jx_gd jx_M208 := ⟨jx_okL_all jx_C208 _ jx_k208, jx_mOk_words jx_m208⟩
theorem jx_g209 : jx_gd jx_M209 := ⟨jx_okL_all jx_C209 _ jx_k209, jx_mOk_words jx_m209⟩
theorem jx_g210 : jx_gd jx_M210 := ⟨jx_okL_all jx_C210 _ jx_k210, jx_mOk_words jx_m210⟩
theorem jx_g211 : jx_gd jx_M211 := ⟨jx_okL_all jx_C211 _ jx_k211, jx_mOk_words jx_m211⟩
theorem jx_g212 : jx_gd jx_M212 := ⟨jx_okL_all jx_C212 _ jx_k212, jx_mOk_words jx_m212⟩
theorem jx_g213 : jx_gd jx_M213 := ⟨jx_okL_all jx_C213 _ jx_k213, jx_mOk_words jx_m213⟩
theorem jx_g214 : jx_gd jx_M214 := ⟨jx_okL_all jx_C214 _ jx_k214, jx_mOk_words jx_m214⟩
theorem jx_g215 : jx_gd jx_M215 := ⟨jx_okL_all jx_C215 _ jx_k215, jx_mOk_words jx_m215⟩
theorem jx_g216 : jx_gd jx_M216 := ⟨jx_okL_all jx_C216 _ jx_k216, jx_mOk_words jx_m216⟩
theorem jx_g217 : jx_gd jx_M217 := ⟨jx_okL_all jx_C217 _ jx_k217, jx_mOk_words jx_m217⟩
theorem jx_g218 : jx_gd jx_M218 := ⟨jx_okL_all jx_C218 _ jx_k218, jx_mOk_words jx_m218⟩
theorem jx_g219 : jx_gd jx_M219 := ⟨jx_okL_all jx_C219 _ jx_k219, jx_mOk_words jx_m219⟩
theorem jx_g220 : jx_gd jx_M220 := ⟨jx_okL_all jx_C220 _ jx_k220, jx_mOk_words jx_m220⟩
theorem jx_g221 : jx_gd jx_M221 := ⟨jx_okL_all jx_C221 _ jx_k221, jx_mOk_words jx_m221⟩
theorem jx_g222 : jx_gd jx_M222 := ⟨jx_okL_all jx_C222 _ jx_k222, jx_mOk_words jx_m222⟩
theorem jx_g223 : jx_gd jx_M223 := ⟨jx_okL_all jx_C223 _ jx_k223, jx_mOk_words jx_m223⟩
theorem jx_g224 : jx_gd jx_M224 := ⟨jx_okL_all jx_C224 _ jx_k224, jx_mOk_words jx_m224⟩
theorem jx_g225 : jx_gd jx_M225 := ⟨jx_okL_all jx_C225 _ jx_k225, jx_mOk_words jx_m225⟩
theorem jx_g226 : jx_gd jx_M226 := ⟨jx_okL_all jx_C226 _ jx_k226, jx_mOk_words jx_m226⟩
theorem jx_g227 : jx_gd jx_M227 := ⟨jx_okL_all jx_C227 _ jx_k227, jx_mOk_words jx_m227⟩
theorem jx_g228 : jx_gd jx_M228 := ⟨jx_okL_all jx_C228 _ jx_k228, jx_mOk_words jx_m228⟩
theorem jx_g229 : jx_gd jx_M229 := ⟨jx_okL_all jx_C229 _ jx_k229, jx_mOk_words jx_m229⟩
theorem jx_g230 : jx_gd jx_M230 := ⟨jx_okL_all jx_C230 _ jx_k230, jx_mOk_words jx_m230⟩
theorem jx_g231 : jx_gd jx_M231 := ⟨jx_okL_all jx_C231 _ jx_k231, jx_mOk_words jx_m231⟩
theorem jx_g232 : jx_gd jx_M232 := ⟨jx_okL_all jx_C232 _ jx_k232, jx_mOk_words jx_m232⟩
theorem jx_g233 : jx_gd jx_M233 := ⟨jx_okL_all jx_C233 _ jx_k233, jx_mOk_words jx_m233⟩
theorem jx_g234 : jx_gd jx_M234 := ⟨jx_okL_all jx_C234 _ jx_k234, jx_mOk_words jx_m234⟩
theorem jx_g235 : jx_gd jx_M235 := ⟨jx_okL_all jx_C235 _ jx_k235, jx_mOk_words jx_m235⟩
theorem jx_g236 : jx_gd jx_M236 := ⟨jx_okL_all jx_C236 _ jx_k236, jx_mOk_words jx_m236⟩
theorem jx_g237 : jx_gd jx_M237 := ⟨jx_okL_all jx_C237 _ jx_k237, jx_mOk_words jx_m237⟩
theorem jx_g238 : jx_gd jx_M238 := ⟨jx_okL_all jx_C238 _ jx_k238, jx_mOk_words jx_m238⟩
theorem jx_g239 : jx_gd jx_M239 := ⟨jx_okL_all jx_C239 _ jx_k239, jx_mOk_words jx_m239⟩
theorem jx_g240 : jx_gd jx_M240 := ⟨jx_okL_all jx_C240 _ jx_k240, jx_mOk_words jx_m240⟩
theorem jx_g241 : jx_gd jx_M241 := ⟨jx_okL_all jx_C241 _ jx_k241, jx_mOk_words jx_m241⟩
theorem jx_g242 : jx_gd jx_M242 := ⟨jx_okL_all jx_C242 _ jx_k242, jx_mOk_words jx_m242⟩
theorem jx_g243 : jx_gd jx_M243 := ⟨jx_okL_all jx_C243 _ jx_k243, jx_mOk_words jx_m243⟩
theorem jx_g244 : jx_gd jx_M244 := ⟨jx_okL_all jx_C244 _ jx_k244, jx_mOk_words jx_m244⟩
theorem jx_g245 : jx_gd jx_M245 := ⟨jx_okL_all jx_C245 _ jx_k245, jx_mOk_words jx_m245⟩
theorem jx_g246 : jx_gd jx_M246 := ⟨jx_okL_all jx_C246 _ jx_k246, jx_mOk_words jx_m246⟩
theorem jx_g247 : jx_gd jx_M247 := ⟨jx_okL_all jx_C247 _ jx_k247, jx_mOk_words jx_m247⟩
theorem jx_g248 : jx_gd jx_M248 := ⟨jx_okL_all jx_C248 _ jx_k248, jx_mOk_words jx_m248⟩
theorem jx_g249 : jx_gd jx_M249 := ⟨jx_okL_all jx_C249 _ jx_k249, jx_mOk_words jx_m249⟩
theorem jx_g250 : jx_gd jx_M250 := ⟨jx_okL_all jx_C250 _ jx_k250, jx_mOk_words jx_m250⟩
theorem jx_g251 : jx_gd jx_M251 := ⟨jx_okL_all jx_C251 _ jx_k251, jx_mOk_words jx_m251⟩
theorem jx_g252 : jx_gd jx_M252 := ⟨jx_okL_all jx_C252 _ jx_k252, jx_mOk_words jx_m252⟩
theorem jx_g253 : jx_gd jx_M253 := ⟨jx_okL_all jx_C253 _ jx_k253, jx_mOk_words jx_m253⟩
theorem jx_g254 : jx_gd jx_M254 := ⟨jx_okL_all jx_C254 _ jx_k254, jx_mOk_words jx_m254⟩
theorem jx_g255 : jx_gd jx_M255 := ⟨jx_okL_all jx_C255 _ jx_k255, jx_mOk_words jx_m255⟩
theorem jx_g256 : jx_gd jx_M256 := ⟨jx_okL_all jx_C256 _ jx_k256, jx_mOk_words jx_m256⟩
theorem jx_g257 : jx_gd jx_M257 := ⟨jx_okL_all jx_C257 _ jx_k257, jx_mOk_words jx_m257⟩
theorem jx_g258 : jx_gd jx_M258 := ⟨jx_okL_all jx_C258 _ jx_k258, jx_mOk_words jx_m258⟩
theorem jx_g259 : jx_gd jx_M259 := ⟨jx_okL_all jx_C259 _ jx_k259, jx_mOk_words jx_m259⟩
theorem jx_g260 : jx_gd jx_M260 := ⟨jx_okL_all jx_C260 _ jx_k260, jx_mOk_words jx_m260⟩
theorem jx_g261 : jx_gd jx_M261 := ⟨jx_okL_all jx_C261 _ jx_k261, jx_mOk_words jx_m261⟩
theorem jx_g262 : jx_gd jx_M262 := ⟨jx_okL_all jx_C262 _ jx_k262, jx_mOk_words jx_m262⟩
theorem jx_g263 : jx_gd jx_M263 := ⟨jx_okL_all jx_C263 _ jx_k263, jx_mOk_words jx_m263⟩
theorem jx_g264 : jx_gd jx_M264 := ⟨jx_okL_all jx_C264 _ jx_k264, jx_mOk_words jx_m264⟩
theorem jx_g265 : jx_gd jx_M265 := ⟨jx_okL_all jx_C265 _ jx_k265, jx_mOk_words jx_m265⟩
theorem jx_g266 : jx_gd jx_M266 := ⟨jx_okL_all jx_C266 _ jx_k266, jx_mOk_words jx_m266⟩
theorem jx_g267 : jx_gd jx_M267 := ⟨jx_okL_all jx_C267 _ jx_k267, jx_mOk_words jx_m267⟩
theorem jx_g268 : jx_gd jx_M268 := ⟨jx_okL_all jx_C268 _ jx_k268, jx_mOk_words jx_m268⟩
theorem jx_g269 : jx_gd jx_M269 := ⟨jx_okL_all jx_C269 _ jx_k269, jx_mOk_words jx_m269⟩
theorem jx_g270 : jx_gd jx_M270 := ⟨jx_okL_all jx_C270 _ jx_k270, jx_mOk_words jx_m270⟩
theorem jx_g271 : jx_gd jx_M271 := ⟨jx_okL_all jx_C271 _ jx_k271, jx_mOk_words jx_m271⟩
theorem jx_g272 : jx_gd jx_M272 := ⟨jx_okL_all jx_C272 _ jx_k272, jx_mOk_words jx_m272⟩
theorem jx_g273 : jx_gd jx_M273 := ⟨jx_okL_all jx_C273 _ jx_k273, jx_mOk_words jx_m273⟩
theorem jx_g274 : jx_gd jx_M274 := ⟨jx_okL_all jx_C274 _ jx_k274, jx_mOk_words jx_m274⟩
theorem jx_g275 : jx_gd jx_M275 := ⟨jx_okL_all jx_C275 _ jx_k275, jx_mOk_words jx_m275⟩
theorem jx_g276 : jx_gd jx_M276 := ⟨jx_okL_all jx_C276 _ jx_k276, jx_mOk_words jx_m276⟩
theorem jx_g277 : jx_gd jx_M277 := ⟨jx_okL_all jx_C277 _ jx_k277, jx_mOk_words jx_m277⟩
theorem jx_g278 : jx_gd jx_M278 := ⟨jx_okL_all jx_C278 _ jx_k278, jx_mOk_words jx_m278⟩
theorem jx_g279 : jx_gd jx_M279 := ⟨jx_okL_all jx_C279 _ jx_k279, jx_mOk_words jx_m279⟩
theorem jx_g280 : jx_gd jx_M280 := ⟨jx_okL_all jx_C280 _ jx_k280, jx_mOk_words jx_m280⟩
theorem jx_g281 : jx_gd jx_M281 := ⟨jx_okL_all jx_C281 _ jx_k281, jx_mOk_words jx_m281⟩
theorem jx_g282 : jx_gd jx_M282 := ⟨jx_okL_all jx_C282 _ jx_k282, jx_mOk_words jx_m282⟩
theorem jx_g283 : jx_gd jx_M283 := ⟨jx_okL_all jx_C283 _ jx_k283, jx_mOk_words jx_m283⟩
theorem jx_g284 : jx_gd jx_M284 := ⟨jx_okL_all jx_C284 _ jx_k284, jx_mOk_words jx_m284⟩
theorem jx_g285 : jx_gd jx_M285 := ⟨jx_okL_all jx_C285 _ jx_k285, jx_mOk_words jx_m285⟩
theorem jx_g286 : jx_gd jx_M286 := ⟨jx_okL_all jx_C286 _ jx_k286, jx_mOk_words jx_m286⟩
theorem jx_g287 : jx_gd jx_M287 := ⟨jx_okL_all jx_C287 _ jx_k287, jx_mOk_words jx_m287⟩
theorem jx_g288 : jx_gd jx_M288 := ⟨jx_okL_all jx_C288 _ jx_k288, jx_mOk_words jx_m288⟩
theorem jx_g289 : jx_gd jx_M289 := ⟨jx_okL_all jx_C289 _ jx_k289, jx_mOk_words jx_m289⟩
theorem jx_g290 : jx_gd jx_M290 := ⟨jx_okL_all jx_C290 _ jx_k290, jx_mOk_words jx_m290⟩
theorem jx_g291 : jx_gd jx_M291 := ⟨jx_okL_all jx_C291 _ jx_k291, jx_mOk_words jx_m291⟩
theorem jx_g292 : jx_gd jx_M292 := ⟨jx_okL_all jx_C292 _ jx_k292, jx_mOk_words jx_m292⟩
theorem jx_g293 : jx_gd jx_M293 := ⟨jx_okL_all jx_C293 _ jx_k293, jx_mOk_words jx_m293⟩
theorem jx_g294 : jx_gd jx_M294 := ⟨jx_okL_all jx_C294 _ jx_k294, jx_mOk_words jx_m294⟩
theorem jx_g295 : jx_gd jx_M295 := ⟨jx_okL_all jx_C295 _ jx_k295, jx_mOk_words jx_m295⟩
theorem jx_g296 : jx_gd jx_M296 := ⟨jx_okL_all jx_C296 _ jx_k296, jx_mOk_words jx_m296⟩
theorem jx_g297 : jx_gd jx_M297 := ⟨jx_okL_all jx_C297 _ jx_k297, jx_mOk_words jx_m297⟩
theorem jx_g298 : jx_gd jx_M298 := ⟨jx_okL_all jx_C298 _ jx_k298, jx_mOk_words jx_m298⟩
theorem jx_g299 : jx_gd jx_M299 := ⟨jx_okL_all jx_C299 _ jx_k299, jx_mOk_words jx_m299⟩
theorem jx_g300 : jx_gd jx_M300 := ⟨jx_okL_all jx_C300 _ jx_k300, jx_mOk_words jx_m300⟩
theorem jx_g301 : jx_gd jx_M301 := ⟨jx_okL_all jx_C301 _ jx_k301, jx_mOk_words jx_m301⟩
theorem jx_g302 : jx_gd jx_M302 := ⟨jx_okL_all jx_C302 _ jx_k302, jx_mOk_words jx_m302⟩
theorem jx_g303 : jx_gd jx_M303 := ⟨jx_okL_all jx_C303 _ jx_k303, jx_mOk_words jx_m303⟩
theorem jx_g304 : jx_gd jx_M304 := ⟨jx_okL_all jx_C304 _ jx_k304, jx_mOk_words jx_m304⟩
theorem jx_g305 : jx_gd jx_M305 := ⟨jx_okL_all jx_C305 _ jx_k305, jx_mOk_words jx_m305⟩
theorem jx_g306 : jx_gd jx_M306 := ⟨jx_okL_all jx_C306 _ jx_k306, jx_mOk_words jx_m306⟩
theorem jx_g307 : jx_gd jx_M307 := ⟨jx_okL_all jx_C307 _ jx_k307, jx_mOk_words jx_m307⟩
theorem jx_g308 : jx_gd jx_M308 := ⟨jx_okL_all jx_C308 _ jx_k308, jx_mOk_words jx_m308⟩
theorem jx_g309 : jx_gd jx_M309 := ⟨jx_okL_all jx_C309 _ jx_k309, jx_mOk_words jx_m309⟩
theorem jx_g310 : jx_gd jx_M310 := ⟨jx_okL_all jx_C310 _ jx_k310, jx_mOk_words jx_m310⟩
theorem jx_g311 : jx_gd jx_M311 := ⟨jx_okL_all jx_C311 _ jx_k311, jx_mOk_words jx_m311⟩
theorem jx_g312 : jx_gd jx_M312 := ⟨jx_okL_all jx_C312 _ jx_k312, jx_mOk_words jx_m312⟩
theorem jx_g313 : jx_gd jx_M313 := ⟨jx_okL_all jx_C313 _ jx_k313, jx_mOk_words jx_m313⟩
theorem jx_g314 : jx_gd jx_M314 := ⟨jx_okL_all jx_C314 _ jx_k314, jx_mOk_words jx_m314⟩
theorem jx_g315 : jx_gd jx_M315 := ⟨jx_okL_all jx_C315 _ jx_k315, jx_mOk_words jx_m315⟩
theorem jx_g316 : jx_gd jx_M316 := ⟨jx_okL_all jx_C316 _ jx_k316, jx_mOk_words jx_m316⟩
theorem jx_g317 : jx_gd jx_M317 := ⟨jx_okL_all jx_C317 _ jx_k317, jx_mOk_words jx_m317⟩
theorem jx_g318 : jx_gd jx_M318 := ⟨jx_okL_all jx_C318 _ jx_k318, jx_mOk_words jx_m318⟩
theorem jx_g319 : jx_gd jx_M319 := ⟨jx_okL_all jx_C319 _ jx_k319, jx_mOk_words jx_m319⟩
theorem jx_g320 : jx_gd jx_M320 := ⟨jx_okL_all jx_C320 _ jx_k320, jx_mOk_words jx_m320⟩
theorem jx_g321 : jx_gd jx_M321 := ⟨jx_okL_all jx_C321 _ jx_k321, jx_mOk_words jx_m321⟩
theorem jx_g322 : jx_gd jx_M322 := ⟨jx_okL_all jx_C322 _ jx_k322, jx_mOk_words jx_m322⟩
theorem jx_gs0 : ∀ M ∈ [jx_M0, jx_M1, jx_M2, jx_M3, jx_M4, jx_M5, jx_M6, jx_M7, jx_M8, jx_M9, jx_M10, jx_M11, jx_M12, jx_M13, jx_M14, jx_M15, jx_M16, jx_M17, jx_M18, jx_M19, jx_M20, jx_M21, jx_M22, jx_M23, jx_M24, jx_M25, jx_M26, jx_M27, jx_M28, jx_M29, jx_M30, jx_M31, jx_M32, jx_M33, jx_M34, jx_M35, jx_M36, jx_M37, jx_M38, jx_M39], jx_gd M := List.forall_mem_cons.mpr ⟨jx_g0, List.forall_mem_cons.mpr ⟨jx_g1, List.forall_mem_cons.mpr ⟨jx_g2, List.forall_mem_cons.mpr ⟨jx_g3, List.forall_mem_cons.mpr ⟨jx_g4, List.forall_mem_cons.mpr ⟨jx_g5, List.forall_mem_cons.mpr ⟨jx_g6, List.forall_mem_cons.mpr ⟨jx_g7, List.forall_mem_cons.mpr ⟨jx_g8, List.forall_mem_cons.mpr ⟨jx_g9, List.forall_mem_cons.mpr ⟨jx_g10, List.forall_mem_cons.mpr ⟨jx_g11, List.forall_mem_cons.mpr ⟨jx_g12, List.forall_mem_cons.mpr ⟨jx_g13, List.forall_mem_cons.mpr ⟨jx_g14, List.forall_mem_cons.mpr ⟨jx_g15, List.forall_mem_cons.mpr ⟨jx_g16, List.forall_mem_cons.mpr ⟨jx_g17, List.forall_mem_cons.mpr ⟨jx_g18, List.forall_mem_cons.mpr ⟨jx_g19, List.forall_mem_cons.mpr ⟨jx_g20, List.forall_mem_cons.mpr ⟨jx_g21, List.forall_mem_cons.mpr ⟨jx_g22, List.forall_mem_cons.mpr ⟨jx_g23, List.forall_mem_cons.mpr ⟨jx_g24, List.forall_mem_cons.mpr ⟨jx_g25, List.forall_mem_cons.mpr ⟨jx_g26, List.forall_mem_cons.mpr ⟨jx_g27, List.forall_mem_cons.mpr ⟨jx_g28, List.forall_mem_cons.mpr ⟨jx_g29, List.forall_mem_cons.mpr ⟨jx_g30, List.forall_mem_cons.mpr ⟨jx_g31, List.forall_mem_cons.mpr ⟨jx_g32, List.forall_mem_cons.mpr ⟨jx_g33, List.forall_mem_cons.mpr ⟨jx_g34, List.forall_mem_cons.mpr ⟨jx_g35, List.forall_mem_cons.mpr ⟨jx_g36, List.forall_mem_cons.mpr ⟨jx_g37, List.forall_mem_cons.mpr ⟨jx_g38, List.forall_mem_cons.mpr ⟨jx_g39, fun _ h => absurd h List.not_mem_nil⟩⟩⟩⟩⟩⟩⟩⟩⟩⟩⟩⟩⟩⟩⟩⟩⟩⟩⟩⟩⟩⟩⟩⟩⟩⟩⟩⟩⟩⟩⟩⟩⟩⟩⟩⟩⟩⟩⟩⟩
theorem jx_gs1 : ∀ M ∈ [jx_M40, jx_M41, jx_M42, jx_M43, jx_M44, jx_M45, jx_M46, jx_M47, jx_M48, jx_M49, jx_M50, jx_M51, jx_M52, jx_M53, jx_M54, jx_M55, jx_M56, jx_M57, jx_M58, jx_M59, jx_M60, jx_M61, jx_M62, jx_M63, jx_M64, jx_M65, jx_M66, jx_M67, jx_M68, jx_M69, jx_M70, jx_M71, jx_M72, jx_M73, jx_M74, jx_M75, jx_M76, jx_M77, jx_M78, jx_M79], jx_gd M := List.forall_mem_cons.mpr ⟨jx_g40, List.forall_mem_cons.mpr ⟨jx_g41, List.forall_mem_cons.mpr ⟨jx_g42, List.forall_mem_cons.mpr ⟨jx_g43, List.forall_mem_cons.mpr ⟨jx_g44, List.forall_mem_cons.mpr ⟨jx_g45, List.forall_mem_cons.mpr ⟨jx_g46, List.forall_mem_cons.mpr ⟨jx_g47, List.forall_mem_cons.mpr ⟨jx_g48, List.forall_mem_cons.mpr ⟨jx_g49, List.forall_mem_cons.mpr ⟨jx_g50, List.forall_mem_cons.mpr ⟨jx_g51, List.forall_mem_cons.mpr ⟨jx_g52, List.forall_mem_cons.mpr ⟨jx_g53, List.forall_mem_cons.mpr ⟨jx_g54, List.forall_mem_cons.mpr ⟨jx_g55, List.forall_mem_cons.mpr ⟨jx_g56, List.forall_mem_cons.mpr ⟨jx_g57, List.forall_mem_cons.mpr ⟨jx_g58, List.forall_mem_cons.mpr ⟨jx_g59, List.forall_mem_cons.mpr ⟨jx_g60, List.forall_mem_cons.mpr ⟨jx_g61, List.forall_mem_cons.mpr ⟨jx_g62, List.forall_mem_cons.mpr ⟨jx_g63, List.forall_mem_cons.mpr ⟨jx_g64, List.forall_mem_cons.mpr ⟨jx_g65, List.forall_mem_cons.mpr ⟨jx_g66, List.forall_mem_cons.mpr ⟨jx_g67, List.forall_mem_cons.mpr ⟨jx_g68, List.forall_mem_cons.mpr ⟨jx_g69, List.forall_mem_cons.mpr ⟨jx_g70, List.forall_mem_cons.mpr ⟨jx_g71, List.forall_mem_cons.mpr ⟨jx_g72, List.forall_mem_cons.mpr ⟨jx_g73, List.forall_mem_cons.mpr ⟨jx_g74, List.forall_mem_cons.mpr ⟨jx_g75, List.forall_mem_cons.mpr ⟨jx_g76, List.forall_mem_cons.mpr ⟨jx_g77, List.forall_mem_cons.mpr ⟨jx_g78, List.forall_mem_cons.mpr ⟨jx_g79, fun _ h => absurd h List.not_mem_nil⟩⟩⟩⟩⟩⟩⟩⟩⟩⟩⟩⟩⟩⟩⟩⟩⟩⟩⟩⟩⟩⟩⟩⟩⟩⟩⟩⟩⟩⟩⟩⟩⟩⟩⟩⟩⟩⟩⟩⟩
theorem jx_gs2 : ∀ M ∈ [jx_M80, jx_M81, jx_M82, jx_M83, jx_M84, jx_M85, jx_M86, jx_M87, jx_M88, jx_M89, jx_M90, jx_M91, jx_M92, jx_M93, jx_M94, jx_M95, jx_M96, jx_M97, jx_M98, jx_M99, jx_M100, jx_M101, jx_M102, jx_M103, jx_M104, jx_M105, jx_M106, jx_M107, jx_M108, jx_M109, jx_M110, jx_M111, jx_M112, jx_M113, jx_M114, jx_M115, jx_M116, jx_M117, jx_M118, jx_M119], jx_gd M := List.forall_mem_cons.mpr ⟨jx_g80, List.forall_mem_cons.mpr ⟨jx_g81, List.forall_mem_cons.mpr ⟨jx_g82, List.forall_mem_cons.mpr ⟨jx_g83, List.forall_mem_cons.mpr ⟨jx_g84, List.forall_mem_cons.mpr ⟨jx_g85, List.forall_mem_cons.mpr ⟨jx_g86, List.forall_mem_cons.mpr ⟨jx_g87, List.forall_mem_cons.mpr ⟨jx_g88, List.forall_mem_cons.mpr ⟨jx_g89, List.forall_mem_cons.mpr ⟨jx_g90, List.forall_mem_cons.mpr ⟨jx_g91, List.forall_mem_cons.mpr ⟨jx_g92, List.forall_mem_cons.mpr ⟨jx_g93, List.forall_mem_cons.mpr ⟨jx_g94, List.forall_mem_cons.mpr ⟨jx_g95, List.forall_mem_cons.mpr ⟨jx_g96, List.forall_mem_cons.mpr ⟨jx_g97, List.forall_mem_cons.mpr ⟨jx_g98, List.forall_mem_cons.mpr ⟨jx_g99, List.forall_mem_cons.mpr ⟨jx_g100, List.forall_mem_cons.mpr ⟨jx_g101, List.forall_mem_cons.mpr ⟨jx_g102, List.forall_mem_cons.mpr ⟨jx_g103, List.forall_mem_cons.mpr ⟨jx_g104, List.forall_mem_cons.mpr ⟨jx_g105, List.forall_mem_cons.mpr ⟨jx_g106, List.forall_mem_cons.mpr ⟨jx_g107, List.forall_mem_cons.mpr ⟨jx_g108, List.forall_mem_cons.mpr ⟨jx_g109, List.forall_mem_cons.mpr ⟨jx_g110, List.forall_mem_cons.mpr ⟨jx_g111, List.forall_mem_cons.mpr ⟨jx_g112, List.forall_mem_cons.mpr ⟨jx_g113, List.forall_mem_cons.mpr ⟨jx_g114, List.forall_mem_cons.mpr ⟨jx_g115, List.forall_mem_cons.mpr ⟨jx_g116, List.forall_mem_cons.mpr ⟨jx_g117, List.forall_mem_cons.mpr ⟨jx_g118, List.forall_mem_cons.mpr ⟨jx_g119, fun _ h => absurd h List.not_mem_nil⟩⟩⟩⟩⟩⟩⟩⟩⟩⟩⟩⟩⟩⟩⟩⟩⟩⟩⟩⟩⟩⟩⟩⟩⟩⟩⟩⟩⟩⟩⟩⟩⟩⟩⟩⟩⟩⟩⟩⟩
theorem jx_gs3 : ∀ M ∈ [jx_M120, jx_M121, jx_M122, jx_M123, jx_M124, jx_M125, jx_M126, jx_M127, jx_M128, jx_M129, jx_M130, jx_M131, jx_M132, jx_M133, jx_M134, jx_M135, jx_M136, jx_M137, jx_M138, jx_M139, jx_M140, jx_M141, jx_M142, jx_M143, jx_M144, jx_M145, jx_M146, jx_M147, jx_M148, jx_M149, jx_M150, jx_M151, jx_M152, jx_M153, jx_M154, jx_M155, jx_M156, jx_M157, jx_M158, jx_M159], jx_gd M := List.forall_mem_cons.mpr ⟨jx_g120, List.forall_mem_cons.mpr ⟨jx_g121, List.forall_mem_cons.mpr ⟨jx_g122, List.forall_mem_cons.mpr ⟨jx_g123, List.forall_mem_cons.mpr ⟨jx_g124, List.forall_mem_cons.mpr ⟨jx_g125, List.forall_mem_cons.mpr ⟨jx_g126, List.forall_mem_cons.mpr ⟨jx_g127, List.forall_mem_cons.mpr ⟨jx_g128, List.forall_mem_cons.mpr ⟨jx_g129, List.forall_mem_cons.mpr ⟨jx_g130, List.forall_mem_cons.mpr ⟨jx_g131, List.forall_mem_cons.mpr ⟨jx_g132, List.forall_mem_cons.mpr ⟨jx_g133, List.forall_mem_cons.mpr ⟨jx_g134, List.forall_mem_cons.mpr ⟨jx_g135, List.forall_mem_cons.mpr ⟨jx_g136, List.forall_mem_cons.mpr ⟨jx_g137, List.forall_mem_cons.mpr ⟨jx_g138, List.forall_mem_cons.mpr ⟨jx_g139, List.forall_mem_cons.mpr ⟨jx_g140, List.forall_mem_cons.mpr ⟨jx_g141, List.forall_mem_cons.mpr ⟨jx_g142, List.forall_mem_cons.mpr ⟨jx_g143, List.forall_mem_cons.mpr ⟨jx_g144, List.forall_mem_cons.mpr ⟨jx_g145, List.forall_mem_cons.mpr ⟨jx_g146, List.forall_mem_cons.mpr ⟨jx_g147, List.forall_mem_cons.mpr ⟨jx_g148, List.forall_mem_cons.mpr ⟨jx_g149, List.forall_mem_cons.mpr ⟨jx_g150, List.forall_mem_cons.mpr ⟨jx_g151, List.forall_mem_cons.mpr ⟨jx_g152, List.forall_mem_cons.mpr ⟨jx_g153, List.forall_mem_cons.mpr ⟨jx_g154, List.forall_mem_cons.mpr ⟨jx_g155, List.forall_mem_cons.mpr ⟨jx_g156, List.forall_mem_cons.mpr ⟨jx_g157, List.forall_mem_cons.mpr ⟨jx_g158, List.forall_mem_cons.mpr ⟨jx_g159, fun _ h => absurd h List.not_mem_nil⟩⟩⟩⟩⟩⟩⟩⟩⟩⟩⟩⟩⟩⟩⟩⟩⟩⟩⟩⟩⟩⟩⟩⟩⟩⟩⟩⟩⟩⟩⟩⟩⟩⟩⟩⟩⟩⟩⟩⟩
theorem jx_gs4 : ∀ M ∈ [jx_M160, jx_M161, jx_M162, jx_M163, jx_M164, jx_M165, jx_M166, jx_M167, jx_M168, jx_M169, jx_M170, jx_M171, jx_M172, jx_M173, jx_M174, jx_M175, jx_M176, jx_M177, jx_M178, jx_M179, jx_M180, jx_M181, jx_M182, jx_M183, jx_M184, jx_M185, jx_M186, jx_M187, jx_M188, jx_M189, jx_M190, jx_M191, jx_M192, jx_M193, jx_M194, jx_M195, jx_M196, jx_M197, jx_M198, jx_M199], jx_gd M := List.forall_mem_cons.mpr ⟨jx_g160, List.forall_mem_cons.mpr ⟨jx_g161, List.forall_mem_cons.mpr ⟨jx_g162, List.forall_mem_cons.mpr ⟨jx_g163, List.forall_mem_cons.mpr ⟨jx_g164, List.forall_mem_cons.mpr ⟨jx_g165, List.forall_mem_cons.mpr ⟨jx_g166, List.forall_mem_cons.mpr ⟨jx_g167, List.forall_mem_cons.mpr ⟨jx_g168, List.forall_mem_cons.mpr ⟨jx_g169, List.forall_mem_cons.mpr ⟨jx_g170, List.forall_mem_cons.mpr ⟨jx_g171, List.forall_mem_cons.mpr ⟨jx_g172, List.forall_mem_cons.mpr ⟨jx_g173, List.forall_mem_cons.mpr ⟨jx_g174, List.forall_mem_cons.mpr ⟨jx_g175, List.forall_mem_cons.mpr ⟨jx_g176, List.forall_mem_cons.mpr ⟨jx_g177, List.forall_mem_cons.mpr ⟨jx_g178, List.forall_mem_cons.mpr ⟨jx_g179, List.forall_mem_cons.mpr ⟨jx_g180, List.forall_mem_cons.mpr ⟨jx_g181, List.forall_mem_cons.mpr ⟨jx_g182, List.forall_mem_cons.mpr ⟨jx_g183, List.forall_mem_cons.mpr ⟨jx_g184, List.forall_mem_cons.mpr ⟨jx_g185, List.forall_mem_cons.mpr ⟨jx_g186, List.forall_mem_cons.mpr ⟨jx_g187, List.forall_mem_cons.mpr ⟨jx_g188, List.forall_mem_cons.mpr ⟨jx_g189, List.forall_mem_cons.mpr ⟨jx_g190, List.forall_mem_cons.mpr ⟨jx_g191, List.forall_mem_cons.mpr ⟨jx_g192, List.forall_mem_cons.mpr ⟨jx_g193, List.forall_mem_cons.mpr ⟨jx_g194, List.forall_mem_cons.mpr ⟨jx_g195, List.forall_mem_cons.mpr ⟨jx_g196, List.forall_mem_cons.mpr ⟨jx_g197, List.forall_mem_cons.mpr ⟨jx_g198, List.forall_mem_cons.mpr ⟨jx_g199, fun _ h => absurd h List.not_mem_nil⟩⟩⟩⟩⟩⟩⟩⟩⟩⟩⟩⟩⟩⟩⟩⟩⟩⟩⟩⟩⟩⟩⟩⟩⟩⟩⟩⟩⟩⟩⟩⟩⟩⟩⟩⟩⟩⟩⟩⟩
theorem jx_gs5 : ∀ M ∈ [jx_M200, jx_M201, jx_M202, jx_M203, jx_M204, jx_M205, jx_M206, jx_M207, jx_M208, jx_M209, jx_M210, jx_M211, jx_M212, jx_M213, jx_M214, jx_M215, jx_M216, jx_M217, jx_M218, jx_M219, jx_M220, jx_M221, jx_M222, jx_M223, jx_M224, jx_M225, jx_M226, jx_M227, jx_M228, jx_M229, jx_M230, jx_M231, jx_M232, jx_M233, jx_M234, jx_M235, jx_M236, jx_M237, jx_M238, jx_M239], jx_gd M := List.forall_mem_cons.mpr ⟨jx_g200, List.forall_mem_cons.mpr ⟨jx_g201, List.forall_mem_cons.mpr ⟨jx_g202, List.forall_mem_cons.mpr ⟨jx_g203, List.forall_mem_cons.mpr ⟨jx_g204, List.forall_mem_cons.mpr ⟨jx_g205, List.forall_mem_cons.mpr ⟨jx_g206, List.forall_mem_cons.mpr ⟨jx_g207, List.forall_mem_cons.mpr ⟨jx_g208, List.forall_mem_cons.mpr ⟨jx_g209, List.forall_mem_cons.mpr ⟨jx_g210, List.forall_mem_cons.mpr ⟨jx_g211, List.forall_mem_cons.mpr ⟨jx_g212, List.forall_mem_cons.mpr ⟨jx_g213, List.forall_mem_cons.mpr ⟨jx_g214, List.forall_mem_cons.mpr ⟨jx_g215, List.forall_mem_cons.mpr ⟨jx_g216, List.forall_mem_cons.mpr ⟨jx_g217, List.forall_mem_cons.mpr ⟨jx_g218, List.forall_mem_cons.mpr ⟨jx_g219, List.forall_mem_cons.mpr ⟨jx_g220, List.forall_mem_cons.mpr ⟨jx_g221, List.forall_mem_cons.mpr ⟨jx_g222, List.forall_mem_cons.mpr ⟨jx_g223, List.forall_mem_cons.mpr ⟨jx_g224, List.forall_mem_cons.mpr ⟨jx_g225, List.forall_mem_cons.mpr ⟨jx_g226, List.forall_mem_cons.mpr ⟨jx_g227, List.forall_mem_cons.mpr ⟨jx_g228, List.forall_mem_cons.mpr ⟨jx_g229, List.forall_mem_cons.mpr ⟨jx_g230, List.forall_mem_cons.mpr ⟨jx_g231, List.forall_mem_cons.mpr ⟨jx_g232, List.forall_mem_cons.mpr ⟨jx_g233, List.forall_mem_cons.mpr ⟨jx_g234, List.forall_mem_cons.mpr ⟨jx_g235, List.forall_mem_cons.mpr ⟨jx_g236, List.forall_mem_cons.mpr ⟨jx_g237, List.forall_mem_cons.mpr ⟨jx_g238, List.forall_mem_cons.mpr ⟨jx_g239, fun _ h => absurd h List.not_mem_nil⟩⟩⟩⟩⟩⟩⟩⟩⟩⟩⟩⟩⟩⟩⟩⟩⟩⟩⟩⟩⟩⟩⟩⟩⟩⟩⟩⟩⟩⟩⟩⟩⟩⟩⟩⟩⟩⟩⟩⟩
theorem jx_gs6 : ∀ M ∈ [jx_M240, jx_M241, jx_M242, jx_M243, jx_M244, jx_M245, jx_M246, jx_M247, jx_M248, jx_M249, jx_M250, jx_M251, jx_M252, jx_M253, jx_M254, jx_M255, jx_M256, jx_M257, jx_M258, jx_M259, jx_M260, jx_M261, jx_M262, jx_M263, jx_M264, jx_M265, jx_M266, jx_M267, jx_M268, jx_M269, jx_M270, jx_M271, jx_M272, jx_M273, jx_M274, jx_M275, jx_M276, jx_M277, jx_M278, jx_M279], jx_gd M := List.forall_mem_cons.mpr ⟨jx_g240, List.forall_mem_cons.mpr ⟨jx_g241, List.forall_mem_cons.mpr ⟨jx_g242, List.forall_mem_cons.mpr ⟨jx_g243, List.forall_mem_cons.mpr ⟨jx_g244, List.forall_mem_cons.mpr ⟨jx_g245, List.forall_mem_cons.mpr ⟨jx_g246, List.forall_mem_cons.mpr ⟨jx_g247, List.forall_mem_cons.mpr ⟨jx_g248, List.forall_mem_cons.mpr ⟨jx_g249, List.forall_mem_cons.mpr ⟨jx_g250, List.forall_mem_cons.mpr ⟨jx_g251, List.forall_mem_cons.mpr ⟨jx_g252, List.forall_mem_cons.mpr ⟨jx_g253, List.forall_mem_cons.mpr ⟨jx_g254, List.forall_mem_cons.mpr ⟨jx_g255, List.forall_mem_cons.mpr ⟨jx_g256, List.forall_mem_cons.mpr ⟨jx_g257, List.forall_mem_cons.mpr ⟨jx_g258, List.forall_mem_cons.mpr ⟨jx_g259, List.forall_mem_cons.mpr ⟨jx_g260, List.forall_mem_cons.mpr ⟨jx_g261, List.forall_mem_cons.mpr ⟨jx_g262, List.forall_mem_cons.mpr ⟨jx_g263, List.forall_mem_cons.mpr ⟨jx_g264, List.forall_mem_cons.mpr ⟨jx_g265, List.forall_mem_cons.mpr ⟨jx_g266, List.forall_mem_cons.mpr ⟨jx_g267, List.forall_mem_cons.mpr ⟨jx_g268, List.forall_mem_cons.mpr ⟨jx_g269, List.forall_mem_cons.mpr ⟨jx_g270, List.forall_mem_cons.mpr ⟨jx_g271, List.forall_mem_cons.mpr ⟨jx_g272, List.forall_mem_cons.mpr ⟨jx_g273, List.forall_mem_cons.mpr ⟨jx_g274, List.forall_mem_cons.mpr ⟨jx_g275, List.forall_mem_cons.mpr ⟨jx_g276, List.forall_mem_cons.mpr ⟨jx_g277, List.forall_mem_cons.mpr ⟨jx_g278, List.forall_mem_cons.mpr ⟨jx_g279, fun _ h => absurd h List.not_mem_nil⟩⟩⟩⟩⟩⟩⟩⟩⟩⟩⟩⟩⟩⟩⟩⟩⟩⟩⟩⟩⟩⟩⟩⟩⟩⟩⟩⟩⟩⟩⟩⟩⟩⟩⟩⟩⟩⟩⟩⟩
theorem jx_gs7 : ∀ M ∈ [jx_M280, jx_M281, jx_M282, jx_M283, jx_M284, jx_M285, jx_M286, jx_M287, jx_M288, jx_M289, jx_M290, jx_M291, jx_M292, jx_M293, jx_M294, jx_M295, jx_M296, jx_M297, jx_M298, jx_M299, jx_M300, jx_M301, jx_M302, jx_M303, jx_M304, jx_M305, jx_M306, jx_M307, jx_M308, jx_M309, jx_M310, jx_M311, jx_M312, jx_M313, jx_M314, jx_M315, jx_M316, jx_M317, jx_M318, jx_M319], jx_gd M := List.forall_mem_cons.mpr ⟨jx_g280, List.forall_mem_cons.mpr ⟨jx_g281, List.forall_mem_cons.mpr ⟨jx_g282, List.forall_mem_cons.mpr ⟨jx_g283, List.forall_mem_cons.mpr ⟨jx_g284, List.forall_mem_cons.mpr ⟨jx_g285, List.forall_mem_cons.mpr ⟨jx_g286, List.forall_mem_cons.mpr ⟨jx_g287, List.forall_mem_cons.mpr ⟨jx_g288, List.forall_mem_cons.mpr ⟨jx_g289, List.forall_mem_cons.mpr ⟨jx_g290, List.forall_mem_cons.mpr ⟨jx_g291, List.forall_mem_cons.mpr ⟨jx_g292, List.forall_mem_cons.mpr ⟨jx_g293, List.forall_mem_cons.mpr ⟨jx_g294, List.forall_mem_cons.mpr ⟨jx_g295, List.forall_mem_cons.mpr ⟨jx_g296, List.forall_mem_cons.mpr ⟨jx_g297, List.forall_mem_cons.mpr ⟨jx_g298, List.forall_mem_cons.mpr ⟨jx_g299, List.forall_mem_cons.mpr ⟨jx_g300, List.forall_mem_cons.mpr ⟨jx_g301, List.forall_mem_cons.mpr ⟨jx_g302, List.forall_mem_cons.mpr ⟨jx_g303, List.forall_mem_cons.mpr ⟨jx_g304, List.forall_mem_cons.mpr ⟨jx_g305, List.forall_mem_cons.mpr ⟨jx_g306, List.forall_mem_cons.mpr ⟨jx_g307, List.forall_mem_cons.mpr ⟨jx_g308, List.forall_mem_cons.mpr ⟨jx_g309, List.forall_mem_cons.mpr ⟨jx_g310, List.forall_mem_cons.mpr ⟨jx_g311, List.forall_mem_cons.mpr ⟨jx_g312, List.forall_mem_cons.mpr ⟨jx_g313, List.forall_mem_cons.mpr ⟨jx_g314, List.forall_mem_cons.mpr ⟨jx_g315, List.forall_mem_cons.mpr ⟨jx_g316, List.forall_mem_cons.mpr ⟨jx_g317, List.forall_mem_cons.mpr ⟨jx_g318, List.forall_mem_cons.mpr ⟨jx_g319, fun _ h => absurd h List.not_mem_nil⟩⟩⟩⟩⟩⟩⟩⟩⟩⟩⟩⟩⟩⟩⟩⟩⟩⟩⟩⟩⟩⟩⟩⟩⟩⟩⟩⟩⟩⟩⟩⟩⟩⟩⟩⟩⟩⟩⟩⟩
theorem jx_gs8 : ∀ M ∈ [jx_M320, jx_M321, jx_M322], jx_gd M := List.forall_mem_cons.mpr ⟨jx_g320, List.forall_mem_cons.mpr ⟨jx_g321, List.forall_mem_cons.mpr ⟨jx_g322, fun _ h => absurd h List.not_mem_nil⟩⟩⟩
set_option maxRecDepth 100000 in
theorem jx_msE : jx_ms = [jx_M0, jx_M1, jx_M2, jx_M3, jx_M4, jx_M5, jx_M6, jx_M7, jx_M8, jx_M9, jx_M10, jx_M11, jx_M12, jx_M13, jx_M14, jx_M15, jx_M16, jx_M17, jx_M18, jx_M19, jx_M20, jx_M21, jx_M22, jx_M23, jx_M24, jx_M25, jx_M26, jx_M27, jx_M28, jx_M29, jx_M30, jx_M31, jx_M32, jx_M33, jx_M34, jx_M35, jx_M36, jx_M37, jx_M38, jx_M39] ++ ([jx_M40, jx_M41, jx_M42, jx_M43, jx_M44, jx_M45, jx_M46, jx_M47, jx_M48, jx_M49, jx_M50, jx_M51, jx_M52, jx_M53, jx_M54, jx_M55, jx_M56, jx_M57, jx_M58, jx_M59, jx_M60, jx_M61, jx_M62, jx_M63, jx_M64, jx_M65, jx_M66, jx_M67, jx_M68, jx_M69, jx_M70, jx_M71, jx_M72, jx_M73, jx_M74, jx_M75, jx_M76, jx_M77, jx_M78, jx_M79] ++ ([jx_M80, jx_M81, jx_M82, jx_M83, jx_M84, jx_M85, jx_M86, jx_M87, jx_M88, jx_M89, jx_M90, jx_M91, jx_M92, jx_M93, jx_M94, jx_M95, jx_M96, jx_M97, jx_M98, jx_M99, jx_M100, jx_M101, jx_M102, jx_M103, jx_M104, jx_M105, jx_M106, jx_M107, jx_M108, jx_M109, jx_M110, jx_M111, jx_M112, jx_M113, jx_M114, jx_M115, jx_M116, jx_M117, jx_M118, jx_M119] ++ ([jx_M120, jx_M121, jx_M122, jx_M123, jx_M124, jx_M125, jx_M126, jx_M127, jx_M128, jx_M129, jx_M130, jx_M131, jx_M132, jx_M133, jx_M134, jx_M135, jx_M136, jx_M137, jx_M138, jx_M139, jx_M140, jx_M141, jx_M142, jx_M143, jx_M144, jx_M145, jx_M146, jx_M147, jx_M148, jx_M149, jx_M150, jx_M151, jx_M152, jx_M153, jx_M154, jx_M155, jx_M156, jx_M157, jx_M158, jx_M159] ++ ([jx_M160, jx_M161, jx_M162, jx_M163, jx_M164, jx_M165, jx_M166, jx_M167, jx_M168, jx_M169, jx_M170, jx_M171, jx_M172, jx_M173, jx_M174, jx_M175, jx_M176, jx_M177, jx_M178, jx_M179, jx_M180, jx_M181, jx_M182, jx_M183, jx_M184, jx_M185, jx_M186, jx_M187, jx_M188, jx_M189, jx_M190, jx_M191, jx_M192, jx_M193, jx_M194, jx_M195, jx_M196, jx_M197, jx_M198, jx_M199] ++ ([jx_M200, jx_M201, jx_M202, jx_M203, jx_M204, jx_M205, jx_M206, jx_M207, jx_M208, jx_M209, jx_M210, jx_M211, jx_M212, jx_M213, jx_M214, jx_M215, jx_M216, jx_M217, jx_M218, jx_M219, jx_M220, jx_M221, jx_M222, jx_M223, jx_M224, jx_M225, jx_M226, jx_M227, jx_M228, jx_M229, jx_M230, jx_M231, jx_M232, jx_M233, jx_M234, jx_M235, jx_M236, jx_M237, jx_M238, jx_M239] ++ ([jx_M240, jx_M241, jx_M242, jx_M243, jx_M244, jx_M245, jx_M246, jx_M247, jx_M248, jx_M249, jx_M250, jx_M251, jx_M252, jx_M253, jx_M254, jx_M255, jx_M256, jx_M257, jx_M258, jx_M259, jx_M260, jx_M261, jx_M262, jx_M263, jx_M264, jx_M265, jx_M266, jx_M267, jx_M268, jx_M269, jx_M270, jx_M271, jx_M272, jx_M273, jx_M274, jx_M275, jx_M276, jx_M277, jx_M278, jx_M279] ++ ([jx_M280, jx_M281, jx_M282, jx_M283, jx_M284, jx_M285, jx_M286, jx_M287, jx_M288, jx_M289, jx_M290, jx_M291, jx_M292, jx_M293, jx_M294, jx_M295, jx_M296, jx_M297, jx_M298, jx_M299, jx_M300, jx_M301, jx_M302, jx_M303, jx_M304, jx_M305, jx_M306, jx_M307, jx_M308, jx_M309, jx_M310, jx_M311, jx_M312, jx_M313, jx_M314, jx_M315, jx_M316, jx_M317, jx_M318, jx_M319] ++ ([jx_M320, jx_M321, jx_M322])))))))) := rfl
theorem jx_allGd : ∀ M ∈ jx_ms, jx_gd M := by
  rw [jx_msE]
  exact List.forall_mem_append.mpr ⟨jx_gs0, List.forall_mem_append.mpr ⟨jx_gs1, List.forall_mem_append.mpr ⟨jx_gs2, List.forall_mem_append.mpr ⟨jx_gs3, List.forall_mem_append.mpr ⟨jx_gs4, List.forall_mem_append.mpr ⟨jx_gs5, List.forall_mem_append.mpr ⟨jx_gs6, List.forall_mem_append.mpr ⟨jx_gs7, jx_gs8⟩⟩⟩⟩⟩⟩⟩⟩
theorem jx_seek_mem {t : Nat} {e : jx_El} {k : List jx_El} : ∀ (C : List jx_El), jx_seek t C = e :: k → e ∈ C := by
  intro C
  induction C with
  | nil => intro h; cases h
  | cons e3 r3 ih3 =>
    intro h
    unfold jx_seek at h
    cases hb3 : Nat.beq e3.1 t with
    | true => rw [hb3] at h; cases h; exact List.mem_cons_self
    | false => rw [hb3] at h; exact List.mem_cons_of_mem _ (ih3 h)
/-- the calls of the JDK's own text keep their word -/
def jx_StrOK (l : Launch) (ad : Nat → Nat) (A : Nat → Prop) (X : Heap → State → Prop) : Prop := ∀ (p : Program) (e : Env) (R : Room) (s : State) (m : MethodId) (args : Array Value) (below : List Frame) (meth : Method) (c : Code) (Q : State → Prop) (M : jx_M), jx_Cx p s m args c M → (∀ q, s.heap.size ≤ q → A q) → jx_SOK p l e R s m args below meth c Q ad A X M s.heap
theorem jx_up_size {ad : Nat → Nat} {D : va_G} {cs : ClassId × ClassId × ClassId} {A : Nat → Prop} {X : Heap → State → Prop} {μ : jx_Mem} {H : Heap} {U : State} (hup : ∀ a b : Nat, a ≤ b → A a → A b) (hW : jx_P ad D cs A X μ H U) : ∀ q, H.size ≤ q → A q := by
  intro q hq
  have hs : jx_shape 0 = some (.inl (11, [some 1, some 3, some 9, some 14, some 18, some 26, some 33, some 38, some 52, some 59, some 60])) := rfl
  have hg := jx_wd_get (ad := ad) (cs := cs) (μ := μ) hs
  have h1 := hW.2.1.2 0 _ hg
  have h2 := (hW.1 0 _ hg).lt
  exact hup _ _ (Nat.le_trans (Nat.le_of_lt h2) hq) h1
section JXM
variable {l : Launch} {ad : Nat → Nat} {D : va_G} {cs : ClassId × ClassId × ClassId} {A : Nat → Prop} {X : Heap → State → Prop}
theorem jx_met_of {j lev : Nat} {as : List Value} {μ μ' : jx_Mem} {v : Option Value} {M : jx_M} (hup : ∀ a b : Nat, a ≤ b → A a → A b) (hM : jx_ms[j]? = some M) (hcat : jx_cat as ≤ M.2.2.1)
    (ih : ∀ (p : Program) (e : Env) (s : State) (m : MethodId) (args : Array Value) (below : List Frame) (meth : Method) (c : Code), jx_Cx p s m args c M → meth.sig.returnType = M.2.2.2.1 → meth.locks = false → (∀ q, s.heap.size ≤ q → A q) → jx_Go p l e (jx_rm (M.2.2.2.2.2.1 + lev)) s m args below meth c (MQ below (jx_Q ad D cs A X v μ') args s 0 0 A) ad D cs A X M s.heap 0 (lv_args 0 as) [] μ) :
    Met l M.1 (jx_ws M) (jx_rm (M.2.2.2.2.2.1 + lev)) (va_Pc (as.map (jx_cv ad)) (fun U => jx_P ad D cs A X μ U.heap U)) (jx_Q ad D cs A X v μ') 0 0 A := by
  have hy := (jx_allGd M (List.mem_of_getElem? hM)).2.1.1
  unfold jx_yOk at hy
  simp only [Bool.and_eq_true] at hy
  refine Met.ofW (cc := M.2.1) (maxL := M.2.2.1) (ret := M.2.2.2.1) hy.2.2 rfl ?_
  intro p e s m args below meth c s₁ B hml hv
  obtain ⟨rfl, hW⟩ := hv
  have hts := atoms_spec (ws := jx_ws M) B.pre
  have hown : s.vm.findClass M.1.cls = some m.cls := findClass_of_methodNamed B.named
  have hl := lv_entry (as.map (jx_cv ad)) (n := M.2.2.1) (by rw [jx_cat_sl]; exact hcat)
  rw [jx_mapArgs] at hl
  rw [lg_entry_eq]
  exact ih p e s m _ below meth c ⟨B.exec, B.bytes, hml, hown, fun w hw => hts w (List.mem_cons_of_mem _ hw)⟩ B.returns B.notSynchronized (jx_up_size hup hW) s.heap [] _ hl hW va_S.rf
set_option maxHeartbeats 4000000 in
theorem jx_sound (hXK : jx_XK A X) (hStr : jx_StrOK l ad A X) (hup : ∀ a b : Nat, a ≤ b → A a → A b) : ∀ (n j lev pc : Nat) (lv : jx_Lv) (st : List Value) (μ : jx_Mem) (v : Option Value) (μ' : jx_Mem) (M : jx_M), jx_ms[j]? = some M → jx_run n j lev pc lv st μ = some (v, μ') →
    ∀ (p : Program) (e : Env) (s : State) (m : MethodId) (args : Array Value) (below : List Frame) (meth : Method) (c : Code), jx_Cx p s m args c M → meth.sig.returnType = M.2.2.2.1 → meth.locks = false → (∀ q, s.heap.size ≤ q → A q) → jx_Go p l e (jx_rm (M.2.2.2.2.2.1 + lev)) s m args below meth c (MQ below (jx_Q ad D cs A X v μ') args s 0 0 A) ad D cs A X M s.heap pc lv st μ := by
  intro n
  induction n with
  | zero => intro j lev pc lv st μ v μ' M hM h; cases h
  | succ n ih =>
    intro j lev pc lv st μ v μ' M hM h p e s m args below meth c C0 hr hlocks hA
    have hcd : jx_cd j = M.2.2.2.2.2.2 := by unfold jx_cd; rw [hM]
    have hgd := (jx_allGd M (List.mem_of_getElem? hM))
    unfold jx_run at h
    rw [hcd] at h
    cases hs : jx_seek pc M.2.2.2.2.2.2 with
    | nil => rw [hs] at h; cases h
    | cons el k =>
      rw [hs] at h
      dsimp only at h
      have hpc : jx_pc el = pc := jx_seek_pc _ hs
      subst hpc
      obtain ⟨hh, hok⟩ := hgd.1 el (jx_seek_mem _ hs)
      have hSOK := hStr p e (jx_rm (M.2.2.2.2.2.1 + lev)) s m args below meth c (MQ below (jx_Q ad D cs A X v μ') args s 0 0 A) M C0 hA
      have hR : 1 ≤ (jx_rm (M.2.2.2.2.2.1 + lev)).frames ∧ 60 ≤ (jx_rm (M.2.2.2.2.2.1 + lev)).locals := by
        constructor
        · show 1 ≤ M.2.2.2.2.2.1 + lev + 1
          omega
        · show 60 ≤ 60 * (M.2.2.2.2.2.1 + lev + 1)
          omega
      have hR4 : 4 ≤ M.2.2.2.2.2.1 → 5 ≤ (jx_rm (M.2.2.2.2.2.1 + lev)).frames ∧ 300 ≤ (jx_rm (M.2.2.2.2.2.1 + lev)).locals := by
        intro h4
        constructor
        · show 5 ≤ M.2.2.2.2.2.1 + lev + 1
          omega
        · show 300 ≤ 60 * (M.2.2.2.2.2.1 + lev + 1)
          omega
      suffices hgo : jx_Go p l e (jx_rm (M.2.2.2.2.2.1 + lev)) s m args below meth c (MQ below (jx_Q ad D cs A X v μ') args s 0 0 A) ad D cs A X M s.heap (jx_pc el) (jx_arr el lv) st μ from fun H1 locs1 ls1 hl hW hS => hgo H1 locs1 ls1 (jx_has_arr el hl) hW hS
      cases ha : jx_act el (jx_arr el lv) st μ with
      | none => rw [ha] at h; cases h
      | some a =>
        rw [ha] at h
        rcases a with ⟨b, lv', st', μ1⟩ | ⟨sw, d, lv', st'⟩ | ⟨b, v1⟩ | ⟨j', mode, rk, as, rest⟩
        · dsimp only at h
          cases b with
          | false => cases h
          | true => exact jx_go_ok hXK hA C0 hR hR4 hSOK hok ha (ih j lev _ lv' st' μ1 v μ' M hM h p e s m args below meth c C0 hr hlocks hA)
        · dsimp only at h
          refine jx_jump_ok C0 hok ha (fun t ht => ?_) (fun hn => ?_)
          · rw [ht] at h
            exact ih j lev t lv' st' μ v μ' M hM h p e s m args below meth c C0 hr hlocks hA
          · rw [hn] at h
            exact ih j lev _ lv' st' μ v μ' M hM h p e s m args below meth c C0 hr hlocks hA
        · dsimp only at h
          cases b with
          | false => cases h
          | true =>
            cases h
            exact jx_ret_ok hXK C0 hr hlocks hok ha
        · dsimp only at h
          cases hl : jx_lev mode lev with
          | none => rw [hl] at h; cases h
          | some lev' =>
            rw [hl] at h
            dsimp only at h
            cases hc : jx_run n j' lev' 0 (lv_args 0 as) [] μ with
            | none => rw [hc] at h; cases h
            | some r1 =>
              rw [hc] at h
              dsimp only at h
              cases hq : jx_ret rk r1.1 rest with
              | none => rw [hq] at h; cases h
              | some st2 =>
                rw [hq] at h
                dsimp only at h
                exact jx_call_ok hXK C0 rfl hok ha hl (fun M' hM' => (jx_allGd M' (List.mem_of_getElem? hM')).2) (fun M' hM' hcat => jx_met_of hup hM' hcat (fun p e s m args below meth c C1 hr1 hl1 hA1 => ih j' lev' 0 (lv_args 0 as) [] μ r1.1 r1.2 M' hM' hc p e s m args below meth c C1 hr1 hl1 hA1)) hq (ih j lev _ (jx_arr el lv) st2 r1.2 v μ' M hM h p e s m args below meth c C0 hr hlocks hA)
/-- what a method means, the JVM does: a contract -/
theorem jx_met (hXK : jx_XK A X) (hStr : jx_StrOK l ad A X) (hup : ∀ a b : Nat, a ≤ b → A a → A b) {j lev : Nat} {as : List Value} {μ μ' : jx_Mem} {v : Option Value} {M : jx_M} (hM : jx_ms[j]? = some M) (hcat : jx_cat as ≤ M.2.2.1) (h : jx_ev j lev 0 (lv_args 0 as) [] μ = some (v, μ')) :
    Met l M.1 (jx_ws M) (jx_rm (M.2.2.2.2.2.1 + lev)) (va_Pc (as.map (jx_cv ad)) (fun U => jx_P ad D cs A X μ U.heap U)) (jx_Q ad D cs A X v μ') 0 0 A := by
  obtain ⟨n, hn⟩ := jx_ev_iff.mp h
  exact jx_met_of hup hM hcat (fun p e s m args below meth c C1 hr1 hl1 hA1 => jx_sound hXK hStr hup n j lev 0 _ _ μ v μ' M hM hn p e s m args below meth c C1 hr1 hl1 hA1)
end JXM
