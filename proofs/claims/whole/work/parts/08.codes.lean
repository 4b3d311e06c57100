/-! each method's code is among the words -/
set_option maxRecDepth 20000 in
theorem hb_mc0 : lw_tbl[893]? = some (Cond.code hbm0.1 hbm0.2.1 hbm0.2.2.1 hbm0.2.2.2.1) := rfl
set_option maxRecDepth 20000 in
theorem hb_mc1 : lw_tbl[924]? = some (Cond.code hbm1.1 hbm1.2.1 hbm1.2.2.1 hbm1.2.2.2.1) := rfl
set_option maxRecDepth 20000 in
theorem hb_mc2 : lw_tbl[899]? = some (Cond.code hbm2.1 hbm2.2.1 hbm2.2.2.1 hbm2.2.2.2.1) := rfl
set_option maxRecDepth 20000 in
theorem hb_mc3 : lw_tbl[912]? = some (Cond.code hbm3.1 hbm3.2.1 hbm3.2.2.1 hbm3.2.2.2.1) := rfl
set_option maxRecDepth 20000 in
theorem hb_mc4 : lw_tbl[904]? = some (Cond.code hbm4.1 hbm4.2.1 hbm4.2.2.1 hbm4.2.2.2.1) := rfl
set_option maxRecDepth 20000 in
theorem hb_mc5 : lw_tbl[916]? = some (Cond.code hbm5.1 hbm5.2.1 hbm5.2.2.1 hbm5.2.2.2.1) := rfl
set_option maxRecDepth 20000 in
theorem hb_mc6 : lw_tbl[920]? = some (Cond.code hbm6.1 hbm6.2.1 hbm6.2.2.1 hbm6.2.2.2.1) := rfl
set_option maxRecDepth 20000 in
theorem hb_mc7 : lw_tbl[908]? = some (Cond.code hbm7.1 hbm7.2.1 hbm7.2.2.1 hbm7.2.2.2.1) := rfl
set_option maxRecDepth 20000 in
theorem hb_mc8 : lw_tbl[791]? = some (Cond.code hbm8.1 hbm8.2.1 hbm8.2.2.1 hbm8.2.2.2.1) := rfl
set_option maxRecDepth 20000 in
theorem hb_mc9 : lw_tbl[833]? = some (Cond.code hbm9.1 hbm9.2.1 hbm9.2.2.1 hbm9.2.2.2.1) := rfl
set_option maxRecDepth 20000 in
theorem hb_mc10 : lw_tbl[808]? = some (Cond.code hbm10.1 hbm10.2.1 hbm10.2.2.1 hbm10.2.2.2.1) := rfl
set_option maxRecDepth 20000 in
theorem hb_mc11 : lw_tbl[960]? = some (Cond.code hbm11.1 hbm11.2.1 hbm11.2.2.1 hbm11.2.2.2.1) := rfl
set_option maxRecDepth 20000 in
theorem hb_mc12 : lw_tbl[727]? = some (Cond.code hbm12.1 hbm12.2.1 hbm12.2.2.1 hbm12.2.2.2.1) := rfl
set_option maxRecDepth 20000 in
theorem hb_mc13 : lw_tbl[166]? = some (Cond.code hbm13.1 hbm13.2.1 hbm13.2.2.1 hbm13.2.2.2.1) := rfl
set_option maxRecDepth 20000 in
theorem hb_mc14 : lw_tbl[600]? = some (Cond.code hbm14.1 hbm14.2.1 hbm14.2.2.1 hbm14.2.2.2.1) := rfl
set_option maxRecDepth 20000 in
theorem hb_mc15 : lw_tbl[683]? = some (Cond.code hbm15.1 hbm15.2.1 hbm15.2.2.1 hbm15.2.2.2.1) := rfl
set_option maxRecDepth 20000 in
theorem hb_mc16 : lw_tbl[687]? = some (Cond.code hbm16.1 hbm16.2.1 hbm16.2.2.1 hbm16.2.2.2.1) := rfl
set_option maxRecDepth 20000 in
theorem hb_mc17 : lw_tbl[712]? = some (Cond.code hbm17.1 hbm17.2.1 hbm17.2.2.1 hbm17.2.2.2.1) := rfl
set_option maxRecDepth 20000 in
theorem hb_mc18 : lw_tbl[732]? = some (Cond.code hbm18.1 hbm18.2.1 hbm18.2.2.1 hbm18.2.2.2.1) := rfl
set_option maxRecDepth 20000 in
theorem hb_mc19 : lw_tbl[740]? = some (Cond.code hbm19.1 hbm19.2.1 hbm19.2.2.1 hbm19.2.2.2.1) := rfl
set_option maxRecDepth 20000 in
theorem hb_mc20 : lw_tbl[716]? = some (Cond.code hbm20.1 hbm20.2.1 hbm20.2.2.1 hbm20.2.2.2.1) := rfl
set_option maxRecDepth 20000 in
theorem hb_mc21 : lw_tbl[720]? = some (Cond.code hbm21.1 hbm21.2.1 hbm21.2.2.1 hbm21.2.2.2.1) := rfl
set_option maxRecDepth 20000 in
theorem hb_mc22 : lw_tbl[736]? = some (Cond.code hbm22.1 hbm22.2.1 hbm22.2.2.1 hbm22.2.2.2.1) := rfl
set_option maxRecDepth 20000 in
theorem hb_mc23 : lw_tbl[699]? = some (Cond.code hbm23.1 hbm23.2.1 hbm23.2.2.1 hbm23.2.2.2.1) := rfl
set_option maxRecDepth 20000 in
theorem hb_mc24 : lw_tbl[708]? = some (Cond.code hbm24.1 hbm24.2.1 hbm24.2.2.1 hbm24.2.2.2.1) := rfl
set_option maxRecDepth 20000 in
theorem hb_mc25 : lw_tbl[691]? = some (Cond.code hbm25.1 hbm25.2.1 hbm25.2.2.1 hbm25.2.2.2.1) := rfl
set_option maxRecDepth 20000 in
theorem hb_mc26 : lw_tbl[695]? = some (Cond.code hbm26.1 hbm26.2.1 hbm26.2.2.1 hbm26.2.2.2.1) := rfl
set_option maxRecDepth 20000 in
theorem hb_mc27 : lw_tbl[824]? = some (Cond.code hbm27.1 hbm27.2.1 hbm27.2.2.1 hbm27.2.2.2.1) := rfl
set_option maxRecDepth 20000 in
theorem hb_mc28 : lw_tbl[829]? = some (Cond.code hbm28.1 hbm28.2.1 hbm28.2.2.1 hbm28.2.2.2.1) := rfl
set_option maxRecDepth 20000 in
theorem hb_mc29 : lw_tbl[553]? = some (Cond.code hbm29.1 hbm29.2.1 hbm29.2.2.1 hbm29.2.2.2.1) := rfl
set_option maxRecDepth 20000 in
theorem hb_mc30 : lw_tbl[568]? = some (Cond.code hbm30.1 hbm30.2.1 hbm30.2.2.1 hbm30.2.2.2.1) := rfl
set_option maxRecDepth 20000 in
theorem hb_mc31 : lw_tbl[572]? = some (Cond.code hbm31.1 hbm31.2.1 hbm31.2.2.1 hbm31.2.2.2.1) := rfl
set_option maxRecDepth 20000 in
theorem hb_mc32 : lw_tbl[795]? = some (Cond.code hbm32.1 hbm32.2.1 hbm32.2.2.1 hbm32.2.2.2.1) := rfl
set_option maxRecDepth 20000 in
theorem hb_mc33 : lw_tbl[812]? = some (Cond.code hbm33.1 hbm33.2.1 hbm33.2.2.1 hbm33.2.2.2.1) := rfl
set_option maxRecDepth 20000 in
theorem hb_mc34 : lw_tbl[744]? = some (Cond.code hbm34.1 hbm34.2.1 hbm34.2.2.1 hbm34.2.2.2.1) := rfl
set_option maxRecDepth 20000 in
theorem hb_mc35 : lw_tbl[991]? = some (Cond.code hbm35.1 hbm35.2.1 hbm35.2.2.1 hbm35.2.2.2.1) := rfl
set_option maxRecDepth 20000 in
theorem hb_mc36 : lw_tbl[999]? = some (Cond.code hbm36.1 hbm36.2.1 hbm36.2.2.1 hbm36.2.2.2.1) := rfl
set_option maxRecDepth 20000 in
theorem hb_mc37 : lw_tbl[1028]? = some (Cond.code hbm37.1 hbm37.2.1 hbm37.2.2.1 hbm37.2.2.2.1) := rfl
set_option maxRecDepth 20000 in
theorem hb_mc38 : lw_tbl[1008]? = some (Cond.code hbm38.1 hbm38.2.1 hbm38.2.2.1 hbm38.2.2.2.1) := rfl
set_option maxRecDepth 20000 in
theorem hb_mc39 : lw_tbl[1012]? = some (Cond.code hbm39.1 hbm39.2.1 hbm39.2.2.1 hbm39.2.2.2.1) := rfl
set_option maxRecDepth 20000 in
theorem hb_mc40 : lw_tbl[1016]? = some (Cond.code hbm40.1 hbm40.2.1 hbm40.2.2.1 hbm40.2.2.2.1) := rfl
set_option maxRecDepth 20000 in
theorem hb_mc41 : lw_tbl[1020]? = some (Cond.code hbm41.1 hbm41.2.1 hbm41.2.2.1 hbm41.2.2.2.1) := rfl
set_option maxRecDepth 20000 in
theorem hb_mc42 : lw_tbl[1024]? = some (Cond.code hbm42.1 hbm42.2.1 hbm42.2.2.1 hbm42.2.2.2.1) := rfl
set_option maxRecDepth 20000 in
theorem hb_mc43 : lw_tbl[591]? = some (Cond.code hbm43.1 hbm43.2.1 hbm43.2.2.1 hbm43.2.2.2.1) := rfl
set_option maxRecDepth 20000 in
theorem hb_mc44 : lw_tbl[604]? = some (Cond.code hbm44.1 hbm44.2.1 hbm44.2.2.1 hbm44.2.2.2.1) := rfl
set_option maxRecDepth 20000 in
theorem hb_mc45 : lw_tbl[618]? = some (Cond.code hbm45.1 hbm45.2.1 hbm45.2.2.1 hbm45.2.2.2.1) := rfl
set_option maxRecDepth 20000 in
theorem hb_mc46 : lw_tbl[622]? = some (Cond.code hbm46.1 hbm46.2.1 hbm46.2.2.1 hbm46.2.2.2.1) := rfl
set_option maxRecDepth 20000 in
theorem hb_mc47 : lw_tbl[626]? = some (Cond.code hbm47.1 hbm47.2.1 hbm47.2.2.1 hbm47.2.2.2.1) := rfl
set_option maxRecDepth 20000 in
theorem hb_mc48 : lw_tbl[611]? = some (Cond.code hbm48.1 hbm48.2.1 hbm48.2.2.1 hbm48.2.2.2.1) := rfl
set_option maxRecDepth 20000 in
theorem hb_mc49 : lw_tbl[614]? = some (Cond.code hbm49.1 hbm49.2.1 hbm49.2.2.1 hbm49.2.2.2.1) := rfl
set_option maxRecDepth 20000 in
theorem hb_mc50 : lw_tbl[843]? = some (Cond.code hbm50.1 hbm50.2.1 hbm50.2.2.1 hbm50.2.2.2.1) := rfl
set_option maxRecDepth 20000 in
theorem hb_mc51 : lw_tbl[847]? = some (Cond.code hbm51.1 hbm51.2.1 hbm51.2.2.1 hbm51.2.2.2.1) := rfl
set_option maxRecDepth 20000 in
theorem hb_mc52 : lw_tbl[852]? = some (Cond.code hbm52.1 hbm52.2.1 hbm52.2.2.1 hbm52.2.2.2.1) := rfl
set_option maxRecDepth 20000 in
theorem hb_mc53 : lw_tbl[858]? = some (Cond.code hbm53.1 hbm53.2.1 hbm53.2.2.1 hbm53.2.2.2.1) := rfl
set_option maxRecDepth 20000 in
theorem hb_mc54 : lw_tbl[884]? = some (Cond.code hbm54.1 hbm54.2.1 hbm54.2.2.1 hbm54.2.2.2.1) := rfl
set_option maxRecDepth 20000 in
theorem hb_mc55 : lw_tbl[862]? = some (Cond.code hbm55.1 hbm55.2.1 hbm55.2.2.1 hbm55.2.2.2.1) := rfl
set_option maxRecDepth 20000 in
theorem hb_mc56 : lw_tbl[867]? = some (Cond.code hbm56.1 hbm56.2.1 hbm56.2.2.1 hbm56.2.2.2.1) := rfl
set_option maxRecDepth 20000 in
theorem hb_mc57 : lw_tbl[872]? = some (Cond.code hbm57.1 hbm57.2.1 hbm57.2.2.1 hbm57.2.2.2.1) := rfl
set_option maxRecDepth 20000 in
theorem hb_mc58 : lw_tbl[876]? = some (Cond.code hbm58.1 hbm58.2.1 hbm58.2.2.1 hbm58.2.2.2.1) := rfl
set_option maxRecDepth 20000 in
theorem hb_mc59 : lw_tbl[880]? = some (Cond.code hbm59.1 hbm59.2.1 hbm59.2.2.1 hbm59.2.2.2.1) := rfl
set_option maxRecDepth 20000 in
theorem hb_mc60 : lw_tbl[968]? = some (Cond.code hbm60.1 hbm60.2.1 hbm60.2.2.1 hbm60.2.2.2.1) := rfl
set_option maxRecDepth 20000 in
theorem hb_mc61 : lw_tbl[977]? = some (Cond.code hbm61.1 hbm61.2.1 hbm61.2.2.1 hbm61.2.2.2.1) := rfl
set_option maxRecDepth 20000 in
theorem hb_mc62 : lw_tbl[972]? = some (Cond.code hbm62.1 hbm62.2.1 hbm62.2.2.1 hbm62.2.2.2.1) := rfl
set_option maxRecDepth 20000 in
theorem hb_mc63 : lw_tbl[820]? = some (Cond.code hbm63.1 hbm63.2.1 hbm63.2.2.1 hbm63.2.2.2.1) := rfl
set_option maxRecDepth 20000 in
theorem hb_mc64 : lw_tbl[952]? = some (Cond.code hbm64.1 hbm64.2.1 hbm64.2.2.1 hbm64.2.2.2.1) := rfl
set_option maxRecDepth 20000 in
theorem hb_mc65 : lw_tbl[956]? = some (Cond.code hbm65.1 hbm65.2.1 hbm65.2.2.1 hbm65.2.2.2.1) := rfl
set_option maxRecDepth 20000 in
theorem hb_mc66 : lw_tbl[934]? = some (Cond.code hbm66.1 hbm66.2.1 hbm66.2.2.1 hbm66.2.2.2.1) := rfl
set_option maxRecDepth 20000 in
theorem hb_mc67 : lw_tbl[938]? = some (Cond.code hbm67.1 hbm67.2.1 hbm67.2.2.1 hbm67.2.2.2.1) := rfl
set_option maxRecDepth 20000 in
theorem hb_mc68 : lw_tbl[942]? = some (Cond.code hbm68.1 hbm68.2.1 hbm68.2.2.1 hbm68.2.2.2.1) := rfl
set_option maxRecDepth 20000 in
theorem hb_mc69 : lw_tbl[723]? = some (Cond.code hbm69.1 hbm69.2.1 hbm69.2.2.1 hbm69.2.2.2.1) := rfl
set_option maxRecDepth 20000 in
theorem hb_mc70 : lw_tbl[169]? = some (Cond.code hbm70.1 hbm70.2.1 hbm70.2.2.1 hbm70.2.2.2.1) := rfl
set_option maxRecDepth 20000 in
theorem hb_mc71 : lw_tbl[800]? = some (Cond.code hbm71.1 hbm71.2.1 hbm71.2.2.1 hbm71.2.2.2.1) := rfl
set_option maxRecDepth 20000 in
theorem hb_mc72 : lw_tbl[704]? = some (Cond.code hbm72.1 hbm72.2.1 hbm72.2.2.1 hbm72.2.2.2.1) := rfl
set_option maxRecDepth 20000 in
theorem hb_mc73 : lw_tbl[679]? = some (Cond.code hbm73.1 hbm73.2.1 hbm73.2.2.1 hbm73.2.2.2.1) := rfl
set_option maxRecDepth 20000 in
theorem hb_mc74 : lw_tbl[748]? = some (Cond.code hbm74.1 hbm74.2.1 hbm74.2.2.1 hbm74.2.2.2.1) := rfl
set_option maxRecDepth 20000 in
theorem hb_mc75 : lw_tbl[149]? = some (Cond.code hbm75.1 hbm75.2.1 hbm75.2.2.1 hbm75.2.2.2.1) := rfl
set_option maxRecDepth 20000 in
theorem hb_mc76 : lw_tbl[153]? = some (Cond.code hbm76.1 hbm76.2.1 hbm76.2.2.1 hbm76.2.2.2.1) := rfl
set_option maxRecDepth 20000 in
theorem hb_mc77 : lw_tbl[156]? = some (Cond.code hbm77.1 hbm77.2.1 hbm77.2.2.1 hbm77.2.2.2.1) := rfl
set_option maxRecDepth 20000 in
theorem hb_mc78 : lw_tbl[537]? = some (Cond.code hbm78.1 hbm78.2.1 hbm78.2.2.1 hbm78.2.2.2.1) := rfl
set_option maxRecDepth 20000 in
theorem hb_mc79 : lw_tbl[564]? = some (Cond.code hbm79.1 hbm79.2.1 hbm79.2.2.1 hbm79.2.2.2.1) := rfl
set_option maxRecDepth 20000 in
theorem hb_mc80 : lw_tbl[576]? = some (Cond.code hbm80.1 hbm80.2.1 hbm80.2.2.1 hbm80.2.2.2.1) := rfl
set_option maxRecDepth 20000 in
theorem hb_mc81 : lw_tbl[583]? = some (Cond.code hbm81.1 hbm81.2.1 hbm81.2.2.1 hbm81.2.2.2.1) := rfl
set_option maxRecDepth 20000 in
theorem hb_mc82 : lw_tbl[587]? = some (Cond.code hbm82.1 hbm82.2.1 hbm82.2.2.1 hbm82.2.2.2.1) := rfl
set_option maxRecDepth 20000 in
theorem hb_mc83 : lw_tbl[596]? = some (Cond.code hbm83.1 hbm83.2.1 hbm83.2.2.1 hbm83.2.2.2.1) := rfl
set_option maxRecDepth 20000 in
theorem hb_mc84 : lw_tbl[754]? = some (Cond.code hbm84.1 hbm84.2.1 hbm84.2.2.1 hbm84.2.2.2.1) := rfl
set_option maxRecDepth 20000 in
theorem hb_mc85 : lw_tbl[758]? = some (Cond.code hbm85.1 hbm85.2.1 hbm85.2.2.1 hbm85.2.2.2.1) := rfl
set_option maxRecDepth 20000 in
theorem hb_mc86 : lw_tbl[763]? = some (Cond.code hbm86.1 hbm86.2.1 hbm86.2.2.1 hbm86.2.2.2.1) := rfl
set_option maxRecDepth 20000 in
theorem hb_mc87 : lw_tbl[767]? = some (Cond.code hbm87.1 hbm87.2.1 hbm87.2.2.1 hbm87.2.2.2.1) := rfl
set_option maxRecDepth 20000 in
theorem hb_mc88 : lw_tbl[771]? = some (Cond.code hbm88.1 hbm88.2.1 hbm88.2.2.1 hbm88.2.2.2.1) := rfl
set_option maxRecDepth 20000 in
theorem hb_mc89 : lw_tbl[778]? = some (Cond.code hbm89.1 hbm89.2.1 hbm89.2.2.1 hbm89.2.2.2.1) := rfl
set_option maxRecDepth 20000 in
theorem hb_mc90 : lw_tbl[783]? = some (Cond.code hbm90.1 hbm90.2.1 hbm90.2.2.1 hbm90.2.2.2.1) := rfl
set_option maxRecDepth 20000 in
theorem hb_mc91 : lw_tbl[787]? = some (Cond.code hbm91.1 hbm91.2.1 hbm91.2.2.1 hbm91.2.2.2.1) := rfl
set_option maxRecDepth 20000 in
theorem hb_mc92 : lw_tbl[804]? = some (Cond.code hbm92.1 hbm92.2.1 hbm92.2.2.1 hbm92.2.2.2.1) := rfl
set_option maxRecDepth 20000 in
theorem hb_mc93 : lw_tbl[816]? = some (Cond.code hbm93.1 hbm93.2.1 hbm93.2.2.1 hbm93.2.2.2.1) := rfl
set_option maxRecDepth 20000 in
theorem hb_mc94 : lw_tbl[839]? = some (Cond.code hbm94.1 hbm94.2.1 hbm94.2.2.1 hbm94.2.2.2.1) := rfl
set_option maxRecDepth 20000 in
theorem hb_mc95 : lw_tbl[889]? = some (Cond.code hbm95.1 hbm95.2.1 hbm95.2.2.1 hbm95.2.2.2.1) := rfl
set_option maxRecDepth 20000 in
theorem hb_mc96 : lw_tbl[930]? = some (Cond.code hbm96.1 hbm96.2.1 hbm96.2.2.1 hbm96.2.2.2.1) := rfl
set_option maxRecDepth 20000 in
theorem hb_mc97 : lw_tbl[947]? = some (Cond.code hbm97.1 hbm97.2.1 hbm97.2.2.1 hbm97.2.2.2.1) := rfl
set_option maxRecDepth 20000 in
theorem hb_mc98 : lw_tbl[964]? = some (Cond.code hbm98.1 hbm98.2.1 hbm98.2.2.1 hbm98.2.2.2.1) := rfl
set_option maxRecDepth 20000 in
theorem hb_mc99 : lw_tbl[987]? = some (Cond.code hbm99.1 hbm99.2.1 hbm99.2.2.1 hbm99.2.2.2.1) := rfl
set_option maxRecDepth 20000 in
theorem hb_mc100 : lw_tbl[995]? = some (Cond.code hbm100.1 hbm100.2.1 hbm100.2.2.1 hbm100.2.2.2.1) := rfl
set_option maxRecDepth 20000 in
theorem hb_mc101 : lw_tbl[1004]? = some (Cond.code hbm101.1 hbm101.2.1 hbm101.2.2.1 hbm101.2.2.2.1) := rfl
set_option maxRecDepth 20000 in
theorem hb_mc102 : lw_tbl[1032]? = some (Cond.code hbm102.1 hbm102.2.1 hbm102.2.2.1 hbm102.2.2.2.1) := rfl
set_option maxRecDepth 20000 in
theorem hb_mc103 : lw_tbl[1036]? = some (Cond.code hbm103.1 hbm103.2.1 hbm103.2.2.1 hbm103.2.2.2.1) := rfl
set_option maxRecDepth 20000 in
theorem hb_mc104 : lw_tbl[1044]? = some (Cond.code hbm104.1 hbm104.2.1 hbm104.2.2.1 hbm104.2.2.2.1) := rfl
set_option maxRecDepth 20000 in
theorem hb_mc105 : lw_tbl[548]? = some (Cond.code hbm105.1 hbm105.2.1 hbm105.2.2.1 hbm105.2.2.2.1) := rfl
set_option maxRecDepth 20000 in
theorem hb_mc106 : lw_tbl[560]? = some (Cond.code hbm106.1 hbm106.2.1 hbm106.2.2.1 hbm106.2.2.2.1) := rfl
set_option maxRecDepth 20000 in
theorem hb_mc107 : lw_tbl[1040]? = some (Cond.code hbm107.1 hbm107.2.1 hbm107.2.2.1 hbm107.2.2.2.1) := rfl
set_option maxRecDepth 20000 in
theorem hb_mc108 : lw_tbl[540]? = some (Cond.code hbm108.1 hbm108.2.1 hbm108.2.2.1 hbm108.2.2.2.1) := rfl
set_option maxRecDepth 20000 in
theorem hb_mc109 : lw_tbl[774]? = some (Cond.code hbm109.1 hbm109.2.1 hbm109.2.2.1 hbm109.2.2.2.1) := rfl
set_option maxRecDepth 20000 in
theorem hb_mc110 : lw_tbl[543]? = some (Cond.code hbm110.1 hbm110.2.1 hbm110.2.2.1 hbm110.2.2.2.1) := rfl
set_option maxRecDepth 20000 in
theorem hb_mc111 : lw_tbl[172]? = some (Cond.code hbm111.1 hbm111.2.1 hbm111.2.2.1 hbm111.2.2.2.1) := rfl
set_option maxRecDepth 20000 in
theorem hb_mc112 : lw_tbl[1210]? = some (Cond.code hbm112.1 hbm112.2.1 hbm112.2.2.1 hbm112.2.2.2.1) := rfl
set_option maxRecDepth 20000 in
theorem hb_mc113 : lw_tbl[1216]? = some (Cond.code hbm113.1 hbm113.2.1 hbm113.2.2.1 hbm113.2.2.2.1) := rfl
set_option maxRecDepth 20000 in
theorem hb_mc114 : lw_tbl[1206]? = some (Cond.code hbm114.1 hbm114.2.1 hbm114.2.2.1 hbm114.2.2.2.1) := rfl
set_option maxRecDepth 20000 in
theorem hb_mc115 : lw_tbl[1203]? = some (Cond.code hbm115.1 hbm115.2.1 hbm115.2.2.1 hbm115.2.2.2.1) := rfl
set_option maxRecDepth 20000 in
theorem hb_mc116 : lw_tbl[1221]? = some (Cond.code hbm116.1 hbm116.2.1 hbm116.2.2.1 hbm116.2.2.2.1) := rfl
set_option maxRecDepth 20000 in
theorem hb_mc117 : lw_tbl[1225]? = some (Cond.code hbm117.1 hbm117.2.1 hbm117.2.2.1 hbm117.2.2.2.1) := rfl
set_option maxRecDepth 20000 in
theorem hb_mc118 : lw_tbl[1229]? = some (Cond.code hbm118.1 hbm118.2.1 hbm118.2.2.1 hbm118.2.2.2.1) := rfl
set_option maxRecDepth 20000 in
theorem hb_mc119 : lw_tbl[1233]? = some (Cond.code hbm119.1 hbm119.2.1 hbm119.2.2.1 hbm119.2.2.2.1) := rfl
set_option maxRecDepth 20000 in
theorem hb_mc120 : lw_tbl[1248]? = some (Cond.code hbm120.1 hbm120.2.1 hbm120.2.2.1 hbm120.2.2.2.1) := rfl
set_option maxRecDepth 20000 in
theorem hb_mc121 : lw_tbl[1252]? = some (Cond.code hbm121.1 hbm121.2.1 hbm121.2.2.1 hbm121.2.2.2.1) := rfl
set_option maxRecDepth 20000 in
theorem hb_mc122 : lw_tbl[1255]? = some (Cond.code hbm122.1 hbm122.2.1 hbm122.2.2.1 hbm122.2.2.2.1) := rfl
set_option maxRecDepth 20000 in
theorem hb_mc123 : lw_tbl[1244]? = some (Cond.code hbm123.1 hbm123.2.1 hbm123.2.2.1 hbm123.2.2.2.1) := rfl
set_option maxRecDepth 20000 in
theorem hb_mc124 : lw_tbl[1271]? = some (Cond.code hbm124.1 hbm124.2.1 hbm124.2.2.1 hbm124.2.2.2.1) := rfl
set_option maxRecDepth 20000 in
theorem hb_mc125 : lw_tbl[1275]? = some (Cond.code hbm125.1 hbm125.2.1 hbm125.2.2.1 hbm125.2.2.2.1) := rfl
set_option maxRecDepth 20000 in
theorem hb_mc126 : lw_tbl[1263]? = some (Cond.code hbm126.1 hbm126.2.1 hbm126.2.2.1 hbm126.2.2.2.1) := rfl
set_option maxRecDepth 20000 in
theorem hb_mc127 : lw_tbl[1279]? = some (Cond.code hbm127.1 hbm127.2.1 hbm127.2.2.1 hbm127.2.2.2.1) := rfl
set_option maxRecDepth 20000 in
theorem hb_mc128 : lw_tbl[1289]? = some (Cond.code hbm128.1 hbm128.2.1 hbm128.2.2.1 hbm128.2.2.2.1) := rfl
set_option maxRecDepth 20000 in
theorem hb_mc129 : lw_tbl[1302]? = some (Cond.code hbm129.1 hbm129.2.1 hbm129.2.2.1 hbm129.2.2.2.1) := rfl
set_option maxRecDepth 20000 in
theorem hb_mc130 : lw_tbl[1285]? = some (Cond.code hbm130.1 hbm130.2.1 hbm130.2.2.1 hbm130.2.2.2.1) := rfl
set_option maxRecDepth 20000 in
theorem hb_mc131 : lw_tbl[1307]? = some (Cond.code hbm131.1 hbm131.2.1 hbm131.2.2.1 hbm131.2.2.2.1) := rfl
set_option maxRecDepth 20000 in
theorem hb_mc132 : lw_tbl[1259]? = some (Cond.code hbm132.1 hbm132.2.1 hbm132.2.2.1 hbm132.2.2.2.1) := rfl
set_option maxRecDepth 20000 in
theorem hb_mc133 : lw_tbl[1240]? = some (Cond.code hbm133.1 hbm133.2.1 hbm133.2.2.1 hbm133.2.2.2.1) := rfl
set_option maxRecDepth 20000 in
theorem hb_mc134 : lw_tbl[1312]? = some (Cond.code hbm134.1 hbm134.2.1 hbm134.2.2.1 hbm134.2.2.2.1) := rfl
set_option maxRecDepth 20000 in
theorem hb_mc135 : lw_tbl[1319]? = some (Cond.code hbm135.1 hbm135.2.1 hbm135.2.2.1 hbm135.2.2.2.1) := rfl
set_option maxRecDepth 20000 in
theorem hb_mc136 : lw_tbl[1338]? = some (Cond.code hbm136.1 hbm136.2.1 hbm136.2.2.1 hbm136.2.2.2.1) := rfl
set_option maxRecDepth 20000 in
theorem hb_mc137 : lw_tbl[1326]? = some (Cond.code hbm137.1 hbm137.2.1 hbm137.2.2.1 hbm137.2.2.2.1) := rfl
set_option maxRecDepth 20000 in
theorem hb_mc138 : lw_tbl[1316]? = some (Cond.code hbm138.1 hbm138.2.1 hbm138.2.2.1 hbm138.2.2.2.1) := rfl
set_option maxRecDepth 20000 in
theorem hb_mc139 : lw_tbl[1323]? = some (Cond.code hbm139.1 hbm139.2.1 hbm139.2.2.1 hbm139.2.2.2.1) := rfl
set_option maxRecDepth 20000 in
theorem hb_mc140 : lw_tbl[1331]? = some (Cond.code hbm140.1 hbm140.2.1 hbm140.2.2.1 hbm140.2.2.2.1) := rfl
set_option maxRecDepth 20000 in
theorem hb_mc141 : lw_tbl[1346]? = some (Cond.code hbm141.1 hbm141.2.1 hbm141.2.2.1 hbm141.2.2.2.1) := rfl
set_option maxRecDepth 20000 in
theorem hb_mc142 : lw_tbl[1343]? = some (Cond.code hbm142.1 hbm142.2.1 hbm142.2.2.1 hbm142.2.2.2.1) := rfl
set_option maxRecDepth 20000 in
theorem hb_mc143 : lw_tbl[1335]? = some (Cond.code hbm143.1 hbm143.2.1 hbm143.2.2.1 hbm143.2.2.2.1) := rfl
set_option maxRecDepth 20000 in
theorem hb_mc144 : lw_tbl[1362]? = some (Cond.code hbm144.1 hbm144.2.1 hbm144.2.2.1 hbm144.2.2.2.1) := rfl
set_option maxRecDepth 20000 in
theorem hb_mc145 : lw_tbl[1358]? = some (Cond.code hbm145.1 hbm145.2.1 hbm145.2.2.1 hbm145.2.2.2.1) := rfl
set_option maxRecDepth 20000 in
theorem hb_mc146 : lw_tbl[1354]? = some (Cond.code hbm146.1 hbm146.2.1 hbm146.2.2.1 hbm146.2.2.2.1) := rfl
set_option maxRecDepth 20000 in
theorem hb_mc147 : lw_tbl[1366]? = some (Cond.code hbm147.1 hbm147.2.1 hbm147.2.2.1 hbm147.2.2.2.1) := rfl
set_option maxRecDepth 20000 in
theorem hb_mc148 : lw_tbl[1350]? = some (Cond.code hbm148.1 hbm148.2.1 hbm148.2.2.1 hbm148.2.2.2.1) := rfl
set_option maxRecDepth 20000 in
theorem hb_mc149 : lw_tbl[1370]? = some (Cond.code hbm149.1 hbm149.2.1 hbm149.2.2.1 hbm149.2.2.2.1) := rfl
set_option maxRecDepth 20000 in
theorem hb_mc150 : lw_tbl[1391]? = some (Cond.code hbm150.1 hbm150.2.1 hbm150.2.2.1 hbm150.2.2.2.1) := rfl
set_option maxRecDepth 20000 in
theorem hb_mc151 : lw_tbl[1387]? = some (Cond.code hbm151.1 hbm151.2.1 hbm151.2.2.1 hbm151.2.2.2.1) := rfl
set_option maxRecDepth 20000 in
theorem hb_mc152 : lw_tbl[1383]? = some (Cond.code hbm152.1 hbm152.2.1 hbm152.2.2.1 hbm152.2.2.2.1) := rfl
set_option maxRecDepth 20000 in
theorem hb_mc153 : lw_tbl[1399]? = some (Cond.code hbm153.1 hbm153.2.1 hbm153.2.2.1 hbm153.2.2.2.1) := rfl
set_option maxRecDepth 20000 in
theorem hb_mc154 : lw_tbl[1378]? = some (Cond.code hbm154.1 hbm154.2.1 hbm154.2.2.1 hbm154.2.2.2.1) := rfl
set_option maxRecDepth 20000 in
theorem hb_mc155 : lw_tbl[1375]? = some (Cond.code hbm155.1 hbm155.2.1 hbm155.2.2.1 hbm155.2.2.2.1) := rfl
set_option maxRecDepth 20000 in
theorem hb_mc156 : lw_tbl[1395]? = some (Cond.code hbm156.1 hbm156.2.1 hbm156.2.2.1 hbm156.2.2.2.1) := rfl
set_option maxRecDepth 20000 in
theorem hb_mc157 : lw_tbl[1407]? = some (Cond.code hbm157.1 hbm157.2.1 hbm157.2.2.1 hbm157.2.2.2.1) := rfl
set_option maxRecDepth 20000 in
theorem hb_mc158 : lw_tbl[1403]? = some (Cond.code hbm158.1 hbm158.2.1 hbm158.2.2.1 hbm158.2.2.2.1) := rfl
set_option maxRecDepth 20000 in
theorem hb_mc159 : lw_tbl[1420]? = some (Cond.code hbm159.1 hbm159.2.1 hbm159.2.2.1 hbm159.2.2.2.1) := rfl
set_option maxRecDepth 20000 in
theorem hb_mc160 : lw_tbl[1416]? = some (Cond.code hbm160.1 hbm160.2.1 hbm160.2.2.1 hbm160.2.2.2.1) := rfl
set_option maxRecDepth 20000 in
theorem hb_mc161 : lw_tbl[1424]? = some (Cond.code hbm161.1 hbm161.2.1 hbm161.2.2.1 hbm161.2.2.2.1) := rfl
set_option maxRecDepth 20000 in
theorem hb_mc162 : lw_tbl[1428]? = some (Cond.code hbm162.1 hbm162.2.1 hbm162.2.2.1 hbm162.2.2.2.1) := rfl
set_option maxRecDepth 20000 in
theorem hb_mc163 : lw_tbl[1411]? = some (Cond.code hbm163.1 hbm163.2.1 hbm163.2.2.1 hbm163.2.2.2.1) := rfl
set_option maxRecDepth 20000 in
theorem hb_mc164 : lw_tbl[1436]? = some (Cond.code hbm164.1 hbm164.2.1 hbm164.2.2.1 hbm164.2.2.2.1) := rfl
set_option maxRecDepth 20000 in
theorem hb_mc165 : lw_tbl[1432]? = some (Cond.code hbm165.1 hbm165.2.1 hbm165.2.2.1 hbm165.2.2.2.1) := rfl
set_option maxRecDepth 20000 in
theorem hb_mc166 : lw_tbl[1444]? = some (Cond.code hbm166.1 hbm166.2.1 hbm166.2.2.1 hbm166.2.2.2.1) := rfl
set_option maxRecDepth 20000 in
theorem hb_mc167 : lw_tbl[1440]? = some (Cond.code hbm167.1 hbm167.2.1 hbm167.2.2.1 hbm167.2.2.2.1) := rfl
set_option maxRecDepth 20000 in
theorem hb_mc168 : lw_tbl[1452]? = some (Cond.code hbm168.1 hbm168.2.1 hbm168.2.2.1 hbm168.2.2.2.1) := rfl
set_option maxRecDepth 20000 in
theorem hb_mc169 : lw_tbl[1448]? = some (Cond.code hbm169.1 hbm169.2.1 hbm169.2.2.1 hbm169.2.2.2.1) := rfl
set_option maxRecDepth 20000 in
theorem hb_mc170 : lw_tbl[1460]? = some (Cond.code hbm170.1 hbm170.2.1 hbm170.2.2.1 hbm170.2.2.2.1) := rfl
set_option maxRecDepth 20000 in
theorem hb_mc171 : lw_tbl[1467]? = some (Cond.code hbm171.1 hbm171.2.1 hbm171.2.2.1 hbm171.2.2.2.1) := rfl
set_option maxRecDepth 20000 in
theorem hb_mc172 : lw_tbl[1464]? = some (Cond.code hbm172.1 hbm172.2.1 hbm172.2.2.1 hbm172.2.2.2.1) := rfl
set_option maxRecDepth 20000 in
theorem hb_mc173 : lw_tbl[1456]? = some (Cond.code hbm173.1 hbm173.2.1 hbm173.2.2.1 hbm173.2.2.2.1) := rfl
set_option maxRecDepth 20000 in
theorem hb_mc174 : lw_tbl[1475]? = some (Cond.code hbm174.1 hbm174.2.1 hbm174.2.2.1 hbm174.2.2.2.1) := rfl
set_option maxRecDepth 20000 in
theorem hb_mc175 : lw_tbl[1479]? = some (Cond.code hbm175.1 hbm175.2.1 hbm175.2.2.1 hbm175.2.2.2.1) := rfl
set_option maxRecDepth 20000 in
theorem hb_mc176 : lw_tbl[1487]? = some (Cond.code hbm176.1 hbm176.2.1 hbm176.2.2.1 hbm176.2.2.2.1) := rfl
set_option maxRecDepth 20000 in
theorem hb_mc177 : lw_tbl[1471]? = some (Cond.code hbm177.1 hbm177.2.1 hbm177.2.2.1 hbm177.2.2.2.1) := rfl
set_option maxRecDepth 20000 in
theorem hb_mc178 : lw_tbl[1483]? = some (Cond.code hbm178.1 hbm178.2.1 hbm178.2.2.1 hbm178.2.2.2.1) := rfl
set_option maxRecDepth 20000 in
theorem hb_mc179 : lw_tbl[1503]? = some (Cond.code hbm179.1 hbm179.2.1 hbm179.2.2.1 hbm179.2.2.2.1) := rfl
set_option maxRecDepth 20000 in
theorem hb_mc180 : lw_tbl[1507]? = some (Cond.code hbm180.1 hbm180.2.1 hbm180.2.2.1 hbm180.2.2.2.1) := rfl
set_option maxRecDepth 20000 in
theorem hb_mc181 : lw_tbl[1499]? = some (Cond.code hbm181.1 hbm181.2.1 hbm181.2.2.1 hbm181.2.2.2.1) := rfl
set_option maxRecDepth 20000 in
theorem hb_mc182 : lw_tbl[1511]? = some (Cond.code hbm182.1 hbm182.2.1 hbm182.2.2.1 hbm182.2.2.2.1) := rfl
set_option maxRecDepth 20000 in
theorem hb_mc183 : lw_tbl[1495]? = some (Cond.code hbm183.1 hbm183.2.1 hbm183.2.2.1 hbm183.2.2.2.1) := rfl
set_option maxRecDepth 20000 in
theorem hb_mc184 : lw_tbl[1491]? = some (Cond.code hbm184.1 hbm184.2.1 hbm184.2.2.1 hbm184.2.2.2.1) := rfl
set_option maxRecDepth 20000 in
theorem hb_mc185 : lw_tbl[1515]? = some (Cond.code hbm185.1 hbm185.2.1 hbm185.2.2.1 hbm185.2.2.2.1) := rfl
set_option maxRecDepth 20000 in
theorem hb_mc186 : lw_tbl[1519]? = some (Cond.code hbm186.1 hbm186.2.1 hbm186.2.2.1 hbm186.2.2.2.1) := rfl
set_option maxRecDepth 20000 in
theorem hb_mc187 : lw_tbl[1523]? = some (Cond.code hbm187.1 hbm187.2.1 hbm187.2.2.1 hbm187.2.2.2.1) := rfl
set_option maxRecDepth 20000 in
theorem hb_mc188 : lw_tbl[980]? = some (Cond.code hbm188.1 hbm188.2.1 hbm188.2.2.1 hbm188.2.2.2.1) := rfl
set_option maxRecDepth 20000 in
theorem hb_mc189 : lw_tbl[162]? = some (Cond.code hbm189.1 hbm189.2.1 hbm189.2.2.1 hbm189.2.2.2.1) := rfl
set_option maxRecDepth 20000 in
theorem hb_mc190 : lw_tbl[159]? = some (Cond.code hbm190.1 hbm190.2.1 hbm190.2.2.1 hbm190.2.2.2.1) := rfl
set_option maxRecDepth 20000 in
theorem hb_mc191 : lw_tbl[631]? = some (Cond.code hbm191.1 hbm191.2.1 hbm191.2.2.1 hbm191.2.2.2.1) := rfl
set_option maxRecDepth 20000 in
theorem hb_mc192 : lw_tbl[641]? = some (Cond.code hbm192.1 hbm192.2.1 hbm192.2.2.1 hbm192.2.2.2.1) := rfl
set_option maxRecDepth 20000 in
theorem hb_mc193 : lw_tbl[635]? = some (Cond.code hbm193.1 hbm193.2.1 hbm193.2.2.1 hbm193.2.2.2.1) := rfl
set_option maxRecDepth 20000 in
theorem hb_mc194 : lw_tbl[645]? = some (Cond.code hbm194.1 hbm194.2.1 hbm194.2.2.1 hbm194.2.2.2.1) := rfl
set_option maxRecDepth 20000 in
theorem hb_mc195 : lw_tbl[651]? = some (Cond.code hbm195.1 hbm195.2.1 hbm195.2.2.1 hbm195.2.2.2.1) := rfl
set_option maxRecDepth 20000 in
theorem hb_mc196 : lw_tbl[648]? = some (Cond.code hbm196.1 hbm196.2.1 hbm196.2.2.1 hbm196.2.2.2.1) := rfl
set_option maxRecDepth 20000 in
theorem hb_mc197 : lw_tbl[556]? = some (Cond.code hbm197.1 hbm197.2.1 hbm197.2.2.1 hbm197.2.2.2.1) := rfl
set_option maxRecDepth 20000 in
theorem hb_mc198 : lw_tbl[656]? = some (Cond.code hbm198.1 hbm198.2.1 hbm198.2.2.1 hbm198.2.2.2.1) := rfl
set_option maxRecDepth 20000 in
theorem hb_mc199 : lw_tbl[608]? = some (Cond.code hbm199.1 hbm199.2.1 hbm199.2.2.1 hbm199.2.2.2.1) := rfl
def hb_mcp (m : Nat) : Prop := ∃ i : Nat, lw_tbl[i]? = some (Cond.code (hb_mt m).1 (hb_mt m).2.1 (hb_mt m).2.2.1 (hb_mt m).2.2.2.1)
theorem hb_mcm (m : Nat) (h : m < 200) : hb_mcp m := by
  rcases Nat.lt_or_ge m 100 with h100 | h100
  · rcases Nat.lt_or_ge m 50 with h50 | h50
    · rcases Nat.lt_or_ge m 25 with h25 | h25
      · rcases Nat.lt_or_ge m 12 with h12 | h12
        · rcases Nat.lt_or_ge m 6 with h6 | h6
          · rcases Nat.lt_or_ge m 3 with h3 | h3
            · rcases Nat.lt_or_ge m 1 with h1 | h1
              · obtain rfl : m = 0 := by omega
                exact ⟨_, hb_mc0⟩
              · rcases Nat.lt_or_ge m 2 with h2 | h2
                · obtain rfl : m = 1 := by omega
                  exact ⟨_, hb_mc1⟩
                · obtain rfl : m = 2 := by omega
                  exact ⟨_, hb_mc2⟩
            · rcases Nat.lt_or_ge m 4 with h4 | h4
              · obtain rfl : m = 3 := by omega
                exact ⟨_, hb_mc3⟩
              · rcases Nat.lt_or_ge m 5 with h5 | h5
                · obtain rfl : m = 4 := by omega
                  exact ⟨_, hb_mc4⟩
                · obtain rfl : m = 5 := by omega
                  exact ⟨_, hb_mc5⟩
          · rcases Nat.lt_or_ge m 9 with h9 | h9
            · rcases Nat.lt_or_ge m 7 with h7 | h7
              · obtain rfl : m = 6 := by omega
                exact ⟨_, hb_mc6⟩
              · rcases Nat.lt_or_ge m 8 with h8 | h8
                · obtain rfl : m = 7 := by omega
                  exact ⟨_, hb_mc7⟩
                · obtain rfl : m = 8 := by omega
                  exact ⟨_, hb_mc8⟩
            · rcases Nat.lt_or_ge m 10 with h10 | h10
              · obtain rfl : m = 9 := by omega
                exact ⟨_, hb_mc9⟩
              · rcases Nat.lt_or_ge m 11 with h11 | h11
                · obtain rfl : m = 10 := by omega
                  exact ⟨_, hb_mc10⟩
                · obtain rfl : m = 11 := by omega
                  exact ⟨_, hb_mc11⟩
        · rcases Nat.lt_or_ge m 18 with h18 | h18
          · rcases Nat.lt_or_ge m 15 with h15 | h15
            · rcases Nat.lt_or_ge m 13 with h13 | h13
              · obtain rfl : m = 12 := by omega
                exact ⟨_, hb_mc12⟩
              · rcases Nat.lt_or_ge m 14 with h14 | h14
                · obtain rfl : m = 13 := by omega
                  exact ⟨_, hb_mc13⟩
                · obtain rfl : m = 14 := by omega
                  exact ⟨_, hb_mc14⟩
            · rcases Nat.lt_or_ge m 16 with h16 | h16
              · obtain rfl : m = 15 := by omega
                exact ⟨_, hb_mc15⟩
              · rcases Nat.lt_or_ge m 17 with h17 | h17
                · obtain rfl : m = 16 := by omega
                  exact ⟨_, hb_mc16⟩
                · obtain rfl : m = 17 := by omega
                  exact ⟨_, hb_mc17⟩
          · rcases Nat.lt_or_ge m 21 with h21 | h21
            · rcases Nat.lt_or_ge m 19 with h19 | h19
              · obtain rfl : m = 18 := by omega
                exact ⟨_, hb_mc18⟩
              · rcases Nat.lt_or_ge m 20 with h20 | h20
                · obtain rfl : m = 19 := by omega
                  exact ⟨_, hb_mc19⟩
                · obtain rfl : m = 20 := by omega
                  exact ⟨_, hb_mc20⟩
            · rcases Nat.lt_or_ge m 23 with h23 | h23
              · rcases Nat.lt_or_ge m 22 with h22 | h22
                · obtain rfl : m = 21 := by omega
                  exact ⟨_, hb_mc21⟩
                · obtain rfl : m = 22 := by omega
                  exact ⟨_, hb_mc22⟩
              · rcases Nat.lt_or_ge m 24 with h24 | h24
                · obtain rfl : m = 23 := by omega
                  exact ⟨_, hb_mc23⟩
                · obtain rfl : m = 24 := by omega
                  exact ⟨_, hb_mc24⟩
      · rcases Nat.lt_or_ge m 37 with h37 | h37
        · rcases Nat.lt_or_ge m 31 with h31 | h31
          · rcases Nat.lt_or_ge m 28 with h28 | h28
            · rcases Nat.lt_or_ge m 26 with h26 | h26
              · obtain rfl : m = 25 := by omega
                exact ⟨_, hb_mc25⟩
              · rcases Nat.lt_or_ge m 27 with h27 | h27
                · obtain rfl : m = 26 := by omega
                  exact ⟨_, hb_mc26⟩
                · obtain rfl : m = 27 := by omega
                  exact ⟨_, hb_mc27⟩
            · rcases Nat.lt_or_ge m 29 with h29 | h29
              · obtain rfl : m = 28 := by omega
                exact ⟨_, hb_mc28⟩
              · rcases Nat.lt_or_ge m 30 with h30 | h30
                · obtain rfl : m = 29 := by omega
                  exact ⟨_, hb_mc29⟩
                · obtain rfl : m = 30 := by omega
                  exact ⟨_, hb_mc30⟩
          · rcases Nat.lt_or_ge m 34 with h34 | h34
            · rcases Nat.lt_or_ge m 32 with h32 | h32
              · obtain rfl : m = 31 := by omega
                exact ⟨_, hb_mc31⟩
              · rcases Nat.lt_or_ge m 33 with h33 | h33
                · obtain rfl : m = 32 := by omega
                  exact ⟨_, hb_mc32⟩
                · obtain rfl : m = 33 := by omega
                  exact ⟨_, hb_mc33⟩
            · rcases Nat.lt_or_ge m 35 with h35 | h35
              · obtain rfl : m = 34 := by omega
                exact ⟨_, hb_mc34⟩
              · rcases Nat.lt_or_ge m 36 with h36 | h36
                · obtain rfl : m = 35 := by omega
                  exact ⟨_, hb_mc35⟩
                · obtain rfl : m = 36 := by omega
                  exact ⟨_, hb_mc36⟩
        · rcases Nat.lt_or_ge m 43 with h43 | h43
          · rcases Nat.lt_or_ge m 40 with h40 | h40
            · rcases Nat.lt_or_ge m 38 with h38 | h38
              · obtain rfl : m = 37 := by omega
                exact ⟨_, hb_mc37⟩
              · rcases Nat.lt_or_ge m 39 with h39 | h39
                · obtain rfl : m = 38 := by omega
                  exact ⟨_, hb_mc38⟩
                · obtain rfl : m = 39 := by omega
                  exact ⟨_, hb_mc39⟩
            · rcases Nat.lt_or_ge m 41 with h41 | h41
              · obtain rfl : m = 40 := by omega
                exact ⟨_, hb_mc40⟩
              · rcases Nat.lt_or_ge m 42 with h42 | h42
                · obtain rfl : m = 41 := by omega
                  exact ⟨_, hb_mc41⟩
                · obtain rfl : m = 42 := by omega
                  exact ⟨_, hb_mc42⟩
          · rcases Nat.lt_or_ge m 46 with h46 | h46
            · rcases Nat.lt_or_ge m 44 with h44 | h44
              · obtain rfl : m = 43 := by omega
                exact ⟨_, hb_mc43⟩
              · rcases Nat.lt_or_ge m 45 with h45 | h45
                · obtain rfl : m = 44 := by omega
                  exact ⟨_, hb_mc44⟩
                · obtain rfl : m = 45 := by omega
                  exact ⟨_, hb_mc45⟩
            · rcases Nat.lt_or_ge m 48 with h48 | h48
              · rcases Nat.lt_or_ge m 47 with h47 | h47
                · obtain rfl : m = 46 := by omega
                  exact ⟨_, hb_mc46⟩
                · obtain rfl : m = 47 := by omega
                  exact ⟨_, hb_mc47⟩
              · rcases Nat.lt_or_ge m 49 with h49 | h49
                · obtain rfl : m = 48 := by omega
                  exact ⟨_, hb_mc48⟩
                · obtain rfl : m = 49 := by omega
                  exact ⟨_, hb_mc49⟩
    · rcases Nat.lt_or_ge m 75 with h75 | h75
      · rcases Nat.lt_or_ge m 62 with h62 | h62
        · rcases Nat.lt_or_ge m 56 with h56 | h56
          · rcases Nat.lt_or_ge m 53 with h53 | h53
            · rcases Nat.lt_or_ge m 51 with h51 | h51
              · obtain rfl : m = 50 := by omega
                exact ⟨_, hb_mc50⟩
              · rcases Nat.lt_or_ge m 52 with h52 | h52
                · obtain rfl : m = 51 := by omega
                  exact ⟨_, hb_mc51⟩
                · obtain rfl : m = 52 := by omega
                  exact ⟨_, hb_mc52⟩
            · rcases Nat.lt_or_ge m 54 with h54 | h54
              · obtain rfl : m = 53 := by omega
                exact ⟨_, hb_mc53⟩
              · rcases Nat.lt_or_ge m 55 with h55 | h55
                · obtain rfl : m = 54 := by omega
                  exact ⟨_, hb_mc54⟩
                · obtain rfl : m = 55 := by omega
                  exact ⟨_, hb_mc55⟩
          · rcases Nat.lt_or_ge m 59 with h59 | h59
            · rcases Nat.lt_or_ge m 57 with h57 | h57
              · obtain rfl : m = 56 := by omega
                exact ⟨_, hb_mc56⟩
              · rcases Nat.lt_or_ge m 58 with h58 | h58
                · obtain rfl : m = 57 := by omega
                  exact ⟨_, hb_mc57⟩
                · obtain rfl : m = 58 := by omega
                  exact ⟨_, hb_mc58⟩
            · rcases Nat.lt_or_ge m 60 with h60 | h60
              · obtain rfl : m = 59 := by omega
                exact ⟨_, hb_mc59⟩
              · rcases Nat.lt_or_ge m 61 with h61 | h61
                · obtain rfl : m = 60 := by omega
                  exact ⟨_, hb_mc60⟩
                · obtain rfl : m = 61 := by omega
                  exact ⟨_, hb_mc61⟩
        · rcases Nat.lt_or_ge m 68 with h68 | h68
          · rcases Nat.lt_or_ge m 65 with h65 | h65
            · rcases Nat.lt_or_ge m 63 with h63 | h63
              · obtain rfl : m = 62 := by omega
                exact ⟨_, hb_mc62⟩
              · rcases Nat.lt_or_ge m 64 with h64 | h64
                · obtain rfl : m = 63 := by omega
                  exact ⟨_, hb_mc63⟩
                · obtain rfl : m = 64 := by omega
                  exact ⟨_, hb_mc64⟩
            · rcases Nat.lt_or_ge m 66 with h66 | h66
              · obtain rfl : m = 65 := by omega
                exact ⟨_, hb_mc65⟩
              · rcases Nat.lt_or_ge m 67 with h67 | h67
                · obtain rfl : m = 66 := by omega
                  exact ⟨_, hb_mc66⟩
                · obtain rfl : m = 67 := by omega
                  exact ⟨_, hb_mc67⟩
          · rcases Nat.lt_or_ge m 71 with h71 | h71
            · rcases Nat.lt_or_ge m 69 with h69 | h69
              · obtain rfl : m = 68 := by omega
                exact ⟨_, hb_mc68⟩
              · rcases Nat.lt_or_ge m 70 with h70 | h70
                · obtain rfl : m = 69 := by omega
                  exact ⟨_, hb_mc69⟩
                · obtain rfl : m = 70 := by omega
                  exact ⟨_, hb_mc70⟩
            · rcases Nat.lt_or_ge m 73 with h73 | h73
              · rcases Nat.lt_or_ge m 72 with h72 | h72
                · obtain rfl : m = 71 := by omega
                  exact ⟨_, hb_mc71⟩
                · obtain rfl : m = 72 := by omega
                  exact ⟨_, hb_mc72⟩
              · rcases Nat.lt_or_ge m 74 with h74 | h74
                · obtain rfl : m = 73 := by omega
                  exact ⟨_, hb_mc73⟩
                · obtain rfl : m = 74 := by omega
                  exact ⟨_, hb_mc74⟩
      · rcases Nat.lt_or_ge m 87 with h87 | h87
        · rcases Nat.lt_or_ge m 81 with h81 | h81
          · rcases Nat.lt_or_ge m 78 with h78 | h78
            · rcases Nat.lt_or_ge m 76 with h76 | h76
              · obtain rfl : m = 75 := by omega
                exact ⟨_, hb_mc75⟩
              · rcases Nat.lt_or_ge m 77 with h77 | h77
                · obtain rfl : m = 76 := by omega
                  exact ⟨_, hb_mc76⟩
                · obtain rfl : m = 77 := by omega
                  exact ⟨_, hb_mc77⟩
            · rcases Nat.lt_or_ge m 79 with h79 | h79
              · obtain rfl : m = 78 := by omega
                exact ⟨_, hb_mc78⟩
              · rcases Nat.lt_or_ge m 80 with h80 | h80
                · obtain rfl : m = 79 := by omega
                  exact ⟨_, hb_mc79⟩
                · obtain rfl : m = 80 := by omega
                  exact ⟨_, hb_mc80⟩
          · rcases Nat.lt_or_ge m 84 with h84 | h84
            · rcases Nat.lt_or_ge m 82 with h82 | h82
              · obtain rfl : m = 81 := by omega
                exact ⟨_, hb_mc81⟩
              · rcases Nat.lt_or_ge m 83 with h83 | h83
                · obtain rfl : m = 82 := by omega
                  exact ⟨_, hb_mc82⟩
                · obtain rfl : m = 83 := by omega
                  exact ⟨_, hb_mc83⟩
            · rcases Nat.lt_or_ge m 85 with h85 | h85
              · obtain rfl : m = 84 := by omega
                exact ⟨_, hb_mc84⟩
              · rcases Nat.lt_or_ge m 86 with h86 | h86
                · obtain rfl : m = 85 := by omega
                  exact ⟨_, hb_mc85⟩
                · obtain rfl : m = 86 := by omega
                  exact ⟨_, hb_mc86⟩
        · rcases Nat.lt_or_ge m 93 with h93 | h93
          · rcases Nat.lt_or_ge m 90 with h90 | h90
            · rcases Nat.lt_or_ge m 88 with h88 | h88
              · obtain rfl : m = 87 := by omega
                exact ⟨_, hb_mc87⟩
              · rcases Nat.lt_or_ge m 89 with h89 | h89
                · obtain rfl : m = 88 := by omega
                  exact ⟨_, hb_mc88⟩
                · obtain rfl : m = 89 := by omega
                  exact ⟨_, hb_mc89⟩
            · rcases Nat.lt_or_ge m 91 with h91 | h91
              · obtain rfl : m = 90 := by omega
                exact ⟨_, hb_mc90⟩
              · rcases Nat.lt_or_ge m 92 with h92 | h92
                · obtain rfl : m = 91 := by omega
                  exact ⟨_, hb_mc91⟩
                · obtain rfl : m = 92 := by omega
                  exact ⟨_, hb_mc92⟩
          · rcases Nat.lt_or_ge m 96 with h96 | h96
            · rcases Nat.lt_or_ge m 94 with h94 | h94
              · obtain rfl : m = 93 := by omega
                exact ⟨_, hb_mc93⟩
              · rcases Nat.lt_or_ge m 95 with h95 | h95
                · obtain rfl : m = 94 := by omega
                  exact ⟨_, hb_mc94⟩
                · obtain rfl : m = 95 := by omega
                  exact ⟨_, hb_mc95⟩
            · rcases Nat.lt_or_ge m 98 with h98 | h98
              · rcases Nat.lt_or_ge m 97 with h97 | h97
                · obtain rfl : m = 96 := by omega
                  exact ⟨_, hb_mc96⟩
                · obtain rfl : m = 97 := by omega
                  exact ⟨_, hb_mc97⟩
              · rcases Nat.lt_or_ge m 99 with h99 | h99
                · obtain rfl : m = 98 := by omega
                  exact ⟨_, hb_mc98⟩
                · obtain rfl : m = 99 := by omega
                  exact ⟨_, hb_mc99⟩
  · rcases Nat.lt_or_ge m 150 with h150 | h150
    · rcases Nat.lt_or_ge m 125 with h125 | h125
      · rcases Nat.lt_or_ge m 112 with h112 | h112
        · rcases Nat.lt_or_ge m 106 with h106 | h106
          · rcases Nat.lt_or_ge m 103 with h103 | h103
            · rcases Nat.lt_or_ge m 101 with h101 | h101
              · obtain rfl : m = 100 := by omega
                exact ⟨_, hb_mc100⟩
              · rcases Nat.lt_or_ge m 102 with h102 | h102
                · obtain rfl : m = 101 := by omega
                  exact ⟨_, hb_mc101⟩
                · obtain rfl : m = 102 := by omega
                  exact ⟨_, hb_mc102⟩
            · rcases Nat.lt_or_ge m 104 with h104 | h104
              · obtain rfl : m = 103 := by omega
                exact ⟨_, hb_mc103⟩
              · rcases Nat.lt_or_ge m 105 with h105 | h105
                · obtain rfl : m = 104 := by omega
                  exact ⟨_, hb_mc104⟩
                · obtain rfl : m = 105 := by omega
                  exact ⟨_, hb_mc105⟩
          · rcases Nat.lt_or_ge m 109 with h109 | h109
            · rcases Nat.lt_or_ge m 107 with h107 | h107
              · obtain rfl : m = 106 := by omega
                exact ⟨_, hb_mc106⟩
              · rcases Nat.lt_or_ge m 108 with h108 | h108
                · obtain rfl : m = 107 := by omega
                  exact ⟨_, hb_mc107⟩
                · obtain rfl : m = 108 := by omega
                  exact ⟨_, hb_mc108⟩
            · rcases Nat.lt_or_ge m 110 with h110 | h110
              · obtain rfl : m = 109 := by omega
                exact ⟨_, hb_mc109⟩
              · rcases Nat.lt_or_ge m 111 with h111 | h111
                · obtain rfl : m = 110 := by omega
                  exact ⟨_, hb_mc110⟩
                · obtain rfl : m = 111 := by omega
                  exact ⟨_, hb_mc111⟩
        · rcases Nat.lt_or_ge m 118 with h118 | h118
          · rcases Nat.lt_or_ge m 115 with h115 | h115
            · rcases Nat.lt_or_ge m 113 with h113 | h113
              · obtain rfl : m = 112 := by omega
                exact ⟨_, hb_mc112⟩
              · rcases Nat.lt_or_ge m 114 with h114 | h114
                · obtain rfl : m = 113 := by omega
                  exact ⟨_, hb_mc113⟩
                · obtain rfl : m = 114 := by omega
                  exact ⟨_, hb_mc114⟩
            · rcases Nat.lt_or_ge m 116 with h116 | h116
              · obtain rfl : m = 115 := by omega
                exact ⟨_, hb_mc115⟩
              · rcases Nat.lt_or_ge m 117 with h117 | h117
                · obtain rfl : m = 116 := by omega
                  exact ⟨_, hb_mc116⟩
                · obtain rfl : m = 117 := by omega
                  exact ⟨_, hb_mc117⟩
          · rcases Nat.lt_or_ge m 121 with h121 | h121
            · rcases Nat.lt_or_ge m 119 with h119 | h119
              · obtain rfl : m = 118 := by omega
                exact ⟨_, hb_mc118⟩
              · rcases Nat.lt_or_ge m 120 with h120 | h120
                · obtain rfl : m = 119 := by omega
                  exact ⟨_, hb_mc119⟩
                · obtain rfl : m = 120 := by omega
                  exact ⟨_, hb_mc120⟩
            · rcases Nat.lt_or_ge m 123 with h123 | h123
              · rcases Nat.lt_or_ge m 122 with h122 | h122
                · obtain rfl : m = 121 := by omega
                  exact ⟨_, hb_mc121⟩
                · obtain rfl : m = 122 := by omega
                  exact ⟨_, hb_mc122⟩
              · rcases Nat.lt_or_ge m 124 with h124 | h124
                · obtain rfl : m = 123 := by omega
                  exact ⟨_, hb_mc123⟩
                · obtain rfl : m = 124 := by omega
                  exact ⟨_, hb_mc124⟩
      · rcases Nat.lt_or_ge m 137 with h137 | h137
        · rcases Nat.lt_or_ge m 131 with h131 | h131
          · rcases Nat.lt_or_ge m 128 with h128 | h128
            · rcases Nat.lt_or_ge m 126 with h126 | h126
              · obtain rfl : m = 125 := by omega
                exact ⟨_, hb_mc125⟩
              · rcases Nat.lt_or_ge m 127 with h127 | h127
                · obtain rfl : m = 126 := by omega
                  exact ⟨_, hb_mc126⟩
                · obtain rfl : m = 127 := by omega
                  exact ⟨_, hb_mc127⟩
            · rcases Nat.lt_or_ge m 129 with h129 | h129
              · obtain rfl : m = 128 := by omega
                exact ⟨_, hb_mc128⟩
              · rcases Nat.lt_or_ge m 130 with h130 | h130
                · obtain rfl : m = 129 := by omega
                  exact ⟨_, hb_mc129⟩
                · obtain rfl : m = 130 := by omega
                  exact ⟨_, hb_mc130⟩
          · rcases Nat.lt_or_ge m 134 with h134 | h134
            · rcases Nat.lt_or_ge m 132 with h132 | h132
              · obtain rfl : m = 131 := by omega
                exact ⟨_, hb_mc131⟩
              · rcases Nat.lt_or_ge m 133 with h133 | h133
                · obtain rfl : m = 132 := by omega
                  exact ⟨_, hb_mc132⟩
                · obtain rfl : m = 133 := by omega
                  exact ⟨_, hb_mc133⟩
            · rcases Nat.lt_or_ge m 135 with h135 | h135
              · obtain rfl : m = 134 := by omega
                exact ⟨_, hb_mc134⟩
              · rcases Nat.lt_or_ge m 136 with h136 | h136
                · obtain rfl : m = 135 := by omega
                  exact ⟨_, hb_mc135⟩
                · obtain rfl : m = 136 := by omega
                  exact ⟨_, hb_mc136⟩
        · rcases Nat.lt_or_ge m 143 with h143 | h143
          · rcases Nat.lt_or_ge m 140 with h140 | h140
            · rcases Nat.lt_or_ge m 138 with h138 | h138
              · obtain rfl : m = 137 := by omega
                exact ⟨_, hb_mc137⟩
              · rcases Nat.lt_or_ge m 139 with h139 | h139
                · obtain rfl : m = 138 := by omega
                  exact ⟨_, hb_mc138⟩
                · obtain rfl : m = 139 := by omega
                  exact ⟨_, hb_mc139⟩
            · rcases Nat.lt_or_ge m 141 with h141 | h141
              · obtain rfl : m = 140 := by omega
                exact ⟨_, hb_mc140⟩
              · rcases Nat.lt_or_ge m 142 with h142 | h142
                · obtain rfl : m = 141 := by omega
                  exact ⟨_, hb_mc141⟩
                · obtain rfl : m = 142 := by omega
                  exact ⟨_, hb_mc142⟩
          · rcases Nat.lt_or_ge m 146 with h146 | h146
            · rcases Nat.lt_or_ge m 144 with h144 | h144
              · obtain rfl : m = 143 := by omega
                exact ⟨_, hb_mc143⟩
              · rcases Nat.lt_or_ge m 145 with h145 | h145
                · obtain rfl : m = 144 := by omega
                  exact ⟨_, hb_mc144⟩
                · obtain rfl : m = 145 := by omega
                  exact ⟨_, hb_mc145⟩
            · rcases Nat.lt_or_ge m 148 with h148 | h148
              · rcases Nat.lt_or_ge m 147 with h147 | h147
                · obtain rfl : m = 146 := by omega
                  exact ⟨_, hb_mc146⟩
                · obtain rfl : m = 147 := by omega
                  exact ⟨_, hb_mc147⟩
              · rcases Nat.lt_or_ge m 149 with h149 | h149
                · obtain rfl : m = 148 := by omega
                  exact ⟨_, hb_mc148⟩
                · obtain rfl : m = 149 := by omega
                  exact ⟨_, hb_mc149⟩
    · rcases Nat.lt_or_ge m 175 with h175 | h175
      · rcases Nat.lt_or_ge m 162 with h162 | h162
        · rcases Nat.lt_or_ge m 156 with h156 | h156
          · rcases Nat.lt_or_ge m 153 with h153 | h153
            · rcases Nat.lt_or_ge m 151 with h151 | h151
              · obtain rfl : m = 150 := by omega
                exact ⟨_, hb_mc150⟩
              · rcases Nat.lt_or_ge m 152 with h152 | h152
                · obtain rfl : m = 151 := by omega
                  exact ⟨_, hb_mc151⟩
                · obtain rfl : m = 152 := by omega
                  exact ⟨_, hb_mc152⟩
            · rcases Nat.lt_or_ge m 154 with h154 | h154
              · obtain rfl : m = 153 := by omega
                exact ⟨_, hb_mc153⟩
              · rcases Nat.lt_or_ge m 155 with h155 | h155
                · obtain rfl : m = 154 := by omega
                  exact ⟨_, hb_mc154⟩
                · obtain rfl : m = 155 := by omega
                  exact ⟨_, hb_mc155⟩
          · rcases Nat.lt_or_ge m 159 with h159 | h159
            · rcases Nat.lt_or_ge m 157 with h157 | h157
              · obtain rfl : m = 156 := by omega
                exact ⟨_, hb_mc156⟩
              · rcases Nat.lt_or_ge m 158 with h158 | h158
                · obtain rfl : m = 157 := by omega
                  exact ⟨_, hb_mc157⟩
                · obtain rfl : m = 158 := by omega
                  exact ⟨_, hb_mc158⟩
            · rcases Nat.lt_or_ge m 160 with h160 | h160
              · obtain rfl : m = 159 := by omega
                exact ⟨_, hb_mc159⟩
              · rcases Nat.lt_or_ge m 161 with h161 | h161
                · obtain rfl : m = 160 := by omega
                  exact ⟨_, hb_mc160⟩
                · obtain rfl : m = 161 := by omega
                  exact ⟨_, hb_mc161⟩
        · rcases Nat.lt_or_ge m 168 with h168 | h168
          · rcases Nat.lt_or_ge m 165 with h165 | h165
            · rcases Nat.lt_or_ge m 163 with h163 | h163
              · obtain rfl : m = 162 := by omega
                exact ⟨_, hb_mc162⟩
              · rcases Nat.lt_or_ge m 164 with h164 | h164
                · obtain rfl : m = 163 := by omega
                  exact ⟨_, hb_mc163⟩
                · obtain rfl : m = 164 := by omega
                  exact ⟨_, hb_mc164⟩
            · rcases Nat.lt_or_ge m 166 with h166 | h166
              · obtain rfl : m = 165 := by omega
                exact ⟨_, hb_mc165⟩
              · rcases Nat.lt_or_ge m 167 with h167 | h167
                · obtain rfl : m = 166 := by omega
                  exact ⟨_, hb_mc166⟩
                · obtain rfl : m = 167 := by omega
                  exact ⟨_, hb_mc167⟩
          · rcases Nat.lt_or_ge m 171 with h171 | h171
            · rcases Nat.lt_or_ge m 169 with h169 | h169
              · obtain rfl : m = 168 := by omega
                exact ⟨_, hb_mc168⟩
              · rcases Nat.lt_or_ge m 170 with h170 | h170
                · obtain rfl : m = 169 := by omega
                  exact ⟨_, hb_mc169⟩
                · obtain rfl : m = 170 := by omega
                  exact ⟨_, hb_mc170⟩
            · rcases Nat.lt_or_ge m 173 with h173 | h173
              · rcases Nat.lt_or_ge m 172 with h172 | h172
                · obtain rfl : m = 171 := by omega
                  exact ⟨_, hb_mc171⟩
                · obtain rfl : m = 172 := by omega
                  exact ⟨_, hb_mc172⟩
              · rcases Nat.lt_or_ge m 174 with h174 | h174
                · obtain rfl : m = 173 := by omega
                  exact ⟨_, hb_mc173⟩
                · obtain rfl : m = 174 := by omega
                  exact ⟨_, hb_mc174⟩
      · rcases Nat.lt_or_ge m 187 with h187 | h187
        · rcases Nat.lt_or_ge m 181 with h181 | h181
          · rcases Nat.lt_or_ge m 178 with h178 | h178
            · rcases Nat.lt_or_ge m 176 with h176 | h176
              · obtain rfl : m = 175 := by omega
                exact ⟨_, hb_mc175⟩
              · rcases Nat.lt_or_ge m 177 with h177 | h177
                · obtain rfl : m = 176 := by omega
                  exact ⟨_, hb_mc176⟩
                · obtain rfl : m = 177 := by omega
                  exact ⟨_, hb_mc177⟩
            · rcases Nat.lt_or_ge m 179 with h179 | h179
              · obtain rfl : m = 178 := by omega
                exact ⟨_, hb_mc178⟩
              · rcases Nat.lt_or_ge m 180 with h180 | h180
                · obtain rfl : m = 179 := by omega
                  exact ⟨_, hb_mc179⟩
                · obtain rfl : m = 180 := by omega
                  exact ⟨_, hb_mc180⟩
          · rcases Nat.lt_or_ge m 184 with h184 | h184
            · rcases Nat.lt_or_ge m 182 with h182 | h182
              · obtain rfl : m = 181 := by omega
                exact ⟨_, hb_mc181⟩
              · rcases Nat.lt_or_ge m 183 with h183 | h183
                · obtain rfl : m = 182 := by omega
                  exact ⟨_, hb_mc182⟩
                · obtain rfl : m = 183 := by omega
                  exact ⟨_, hb_mc183⟩
            · rcases Nat.lt_or_ge m 185 with h185 | h185
              · obtain rfl : m = 184 := by omega
                exact ⟨_, hb_mc184⟩
              · rcases Nat.lt_or_ge m 186 with h186 | h186
                · obtain rfl : m = 185 := by omega
                  exact ⟨_, hb_mc185⟩
                · obtain rfl : m = 186 := by omega
                  exact ⟨_, hb_mc186⟩
        · rcases Nat.lt_or_ge m 193 with h193 | h193
          · rcases Nat.lt_or_ge m 190 with h190 | h190
            · rcases Nat.lt_or_ge m 188 with h188 | h188
              · obtain rfl : m = 187 := by omega
                exact ⟨_, hb_mc187⟩
              · rcases Nat.lt_or_ge m 189 with h189 | h189
                · obtain rfl : m = 188 := by omega
                  exact ⟨_, hb_mc188⟩
                · obtain rfl : m = 189 := by omega
                  exact ⟨_, hb_mc189⟩
            · rcases Nat.lt_or_ge m 191 with h191 | h191
              · obtain rfl : m = 190 := by omega
                exact ⟨_, hb_mc190⟩
              · rcases Nat.lt_or_ge m 192 with h192 | h192
                · obtain rfl : m = 191 := by omega
                  exact ⟨_, hb_mc191⟩
                · obtain rfl : m = 192 := by omega
                  exact ⟨_, hb_mc192⟩
          · rcases Nat.lt_or_ge m 196 with h196 | h196
            · rcases Nat.lt_or_ge m 194 with h194 | h194
              · obtain rfl : m = 193 := by omega
                exact ⟨_, hb_mc193⟩
              · rcases Nat.lt_or_ge m 195 with h195 | h195
                · obtain rfl : m = 194 := by omega
                  exact ⟨_, hb_mc194⟩
                · obtain rfl : m = 195 := by omega
                  exact ⟨_, hb_mc195⟩
            · rcases Nat.lt_or_ge m 198 with h198 | h198
              · rcases Nat.lt_or_ge m 197 with h197 | h197
                · obtain rfl : m = 196 := by omega
                  exact ⟨_, hb_mc196⟩
                · obtain rfl : m = 197 := by omega
                  exact ⟨_, hb_mc197⟩
              · rcases Nat.lt_or_ge m 199 with h199 | h199
                · obtain rfl : m = 198 := by omega
                  exact ⟨_, hb_mc198⟩
                · obtain rfl : m = 199 := by omega
                  exact ⟨_, hb_mc199⟩
