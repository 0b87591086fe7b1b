/-! the law's decode rows -/
theorem dl_792 : decode code 792 = .ok (.invokevirtual 112, 3) := by decide +kernel
theorem dl_795 : decode code 795 = .ok (.if_icmp .eq 309, 3) := by decide +kernel
theorem dl_800 : decode code 800 = .ok (.aload_n 1, 1) := by decide +kernel
theorem dl_801 : decode code 801 = .ok (.aload_n 0, 1) := by decide +kernel
theorem dl_802 : decode code 802 = .ok (.iload_n 3, 1) := by decide +kernel
theorem dl_803 : decode code 803 = .ok (.iconst 1, 1) := by decide +kernel
theorem dl_804 : decode code 804 = .ok (.iadd, 1) := by decide +kernel
theorem dl_805 : decode code 805 = .ok (.iaload, 1) := by decide +kernel
theorem dl_806 : decode code 806 = .ok (.invokevirtual 113, 3) := by decide +kernel
theorem dl_809 : decode code 809 = .ok (.aload_n 2, 1) := by decide +kernel
theorem dl_810 : decode code 810 = .ok (.aload_n 0, 1) := by decide +kernel
theorem dl_811 : decode code 811 = .ok (.iload_n 3, 1) := by decide +kernel
theorem dl_812 : decode code 812 = .ok (.iconst 1, 1) := by decide +kernel
theorem dl_813 : decode code 813 = .ok (.iadd, 1) := by decide +kernel
theorem dl_814 : decode code 814 = .ok (.iaload, 1) := by decide +kernel
theorem dl_815 : decode code 815 = .ok (.invokevirtual 116, 3) := by decide +kernel
theorem dl_818 : decode code 818 = .ok (.if_icmp .eq 286, 3) := by decide +kernel
theorem dl_823 : decode code 823 = .ok (.aload_n 1, 1) := by decide +kernel
theorem dl_824 : decode code 824 = .ok (.aload_n 0, 1) := by decide +kernel
theorem dl_825 : decode code 825 = .ok (.iload_n 3, 1) := by decide +kernel
theorem dl_826 : decode code 826 = .ok (.iconst 1, 1) := by decide +kernel
theorem dl_827 : decode code 827 = .ok (.iadd, 1) := by decide +kernel
theorem dl_828 : decode code 828 = .ok (.iaload, 1) := by decide +kernel
theorem dl_829 : decode code 829 = .ok (.aload_n 0, 1) := by decide +kernel
theorem dl_830 : decode code 830 = .ok (.iload_n 3, 1) := by decide +kernel
theorem dl_831 : decode code 831 = .ok (.iconst 2, 1) := by decide +kernel
theorem dl_832 : decode code 832 = .ok (.iadd, 1) := by decide +kernel
theorem dl_833 : decode code 833 = .ok (.iaload, 1) := by decide +kernel
theorem dl_834 : decode code 834 = .ok (.aload_n 0, 1) := by decide +kernel
theorem dl_835 : decode code 835 = .ok (.iload_n 3, 1) := by decide +kernel
theorem dl_836 : decode code 836 = .ok (.iconst 3, 1) := by decide +kernel
theorem dl_837 : decode code 837 = .ok (.iadd, 1) := by decide +kernel
theorem dl_838 : decode code 838 = .ok (.iaload, 1) := by decide +kernel
theorem dl_839 : decode code 839 = .ok (.invokevirtual 117, 3) := by decide +kernel
theorem dl_842 : decode code 842 = .ok (.aload_n 2, 1) := by decide +kernel
theorem dl_843 : decode code 843 = .ok (.aload_n 0, 1) := by decide +kernel
theorem dl_844 : decode code 844 = .ok (.iload_n 3, 1) := by decide +kernel
theorem dl_845 : decode code 845 = .ok (.iconst 1, 1) := by decide +kernel
theorem dl_846 : decode code 846 = .ok (.iadd, 1) := by decide +kernel
theorem dl_847 : decode code 847 = .ok (.iaload, 1) := by decide +kernel
theorem dl_848 : decode code 848 = .ok (.aload_n 0, 1) := by decide +kernel
theorem dl_849 : decode code 849 = .ok (.iload_n 3, 1) := by decide +kernel
theorem dl_850 : decode code 850 = .ok (.iconst 2, 1) := by decide +kernel
theorem dl_851 : decode code 851 = .ok (.iadd, 1) := by decide +kernel
theorem dl_852 : decode code 852 = .ok (.iaload, 1) := by decide +kernel
theorem dl_853 : decode code 853 = .ok (.aload_n 0, 1) := by decide +kernel
theorem dl_854 : decode code 854 = .ok (.iload_n 3, 1) := by decide +kernel
theorem dl_855 : decode code 855 = .ok (.iconst 3, 1) := by decide +kernel
theorem dl_856 : decode code 856 = .ok (.iadd, 1) := by decide +kernel
theorem dl_857 : decode code 857 = .ok (.iaload, 1) := by decide +kernel
theorem dl_858 : decode code 858 = .ok (.invokevirtual 120, 3) := by decide +kernel
theorem dl_861 : decode code 861 = .ok (.if_icmp .eq 243, 3) := by decide +kernel
theorem dl_866 : decode code 866 = .ok (.aload_n 1, 1) := by decide +kernel
theorem dl_867 : decode code 867 = .ok (.invokevirtual 121, 3) := by decide +kernel
theorem dl_870 : decode code 870 = .ok (.aload_n 2, 1) := by decide +kernel
theorem dl_871 : decode code 871 = .ok (.invokevirtual 124, 3) := by decide +kernel
theorem dl_874 : decode code 874 = .ok (.if_icmp .eq 230, 3) := by decide +kernel
theorem dl_879 : decode code 879 = .ok (.aload_n 1, 1) := by decide +kernel
theorem dl_880 : decode code 880 = .ok (.aload_n 0, 1) := by decide +kernel
theorem dl_881 : decode code 881 = .ok (.iload_n 3, 1) := by decide +kernel
theorem dl_882 : decode code 882 = .ok (.iconst 1, 1) := by decide +kernel
theorem dl_883 : decode code 883 = .ok (.iadd, 1) := by decide +kernel
theorem dl_884 : decode code 884 = .ok (.iaload, 1) := by decide +kernel
theorem dl_885 : decode code 885 = .ok (.invokevirtual 125, 3) := by decide +kernel
theorem dl_888 : decode code 888 = .ok (.aload_n 2, 1) := by decide +kernel
theorem dl_889 : decode code 889 = .ok (.aload_n 0, 1) := by decide +kernel
theorem dl_890 : decode code 890 = .ok (.iload_n 3, 1) := by decide +kernel
theorem dl_891 : decode code 891 = .ok (.iconst 1, 1) := by decide +kernel
theorem dl_892 : decode code 892 = .ok (.iadd, 1) := by decide +kernel
theorem dl_893 : decode code 893 = .ok (.iaload, 1) := by decide +kernel
theorem dl_894 : decode code 894 = .ok (.invokevirtual 128, 3) := by decide +kernel
theorem dl_897 : decode code 897 = .ok (.if_icmp .eq 207, 3) := by decide +kernel
theorem dl_902 : decode code 902 = .ok (.aload_n 1, 1) := by decide +kernel
theorem dl_903 : decode code 903 = .ok (.aload_n 0, 1) := by decide +kernel
theorem dl_904 : decode code 904 = .ok (.iload_n 3, 1) := by decide +kernel
theorem dl_905 : decode code 905 = .ok (.iconst 1, 1) := by decide +kernel
theorem dl_906 : decode code 906 = .ok (.iadd, 1) := by decide +kernel
theorem dl_907 : decode code 907 = .ok (.iaload, 1) := by decide +kernel
theorem dl_908 : decode code 908 = .ok (.aload_n 0, 1) := by decide +kernel
theorem dl_909 : decode code 909 = .ok (.iload_n 3, 1) := by decide +kernel
theorem dl_910 : decode code 910 = .ok (.iconst 2, 1) := by decide +kernel
theorem dl_911 : decode code 911 = .ok (.iadd, 1) := by decide +kernel
theorem dl_912 : decode code 912 = .ok (.iaload, 1) := by decide +kernel
theorem dl_913 : decode code 913 = .ok (.aload_n 0, 1) := by decide +kernel
theorem dl_914 : decode code 914 = .ok (.iload_n 3, 1) := by decide +kernel
theorem dl_915 : decode code 915 = .ok (.iconst 3, 1) := by decide +kernel
theorem dl_916 : decode code 916 = .ok (.iadd, 1) := by decide +kernel
theorem dl_917 : decode code 917 = .ok (.iaload, 1) := by decide +kernel
theorem dl_918 : decode code 918 = .ok (.invokevirtual 129, 3) := by decide +kernel
theorem dl_921 : decode code 921 = .ok (.aload_n 2, 1) := by decide +kernel
theorem dl_922 : decode code 922 = .ok (.aload_n 0, 1) := by decide +kernel
theorem dl_923 : decode code 923 = .ok (.iload_n 3, 1) := by decide +kernel
theorem dl_924 : decode code 924 = .ok (.iconst 1, 1) := by decide +kernel
theorem dl_925 : decode code 925 = .ok (.iadd, 1) := by decide +kernel
theorem dl_926 : decode code 926 = .ok (.iaload, 1) := by decide +kernel
theorem dl_927 : decode code 927 = .ok (.aload_n 0, 1) := by decide +kernel
theorem dl_928 : decode code 928 = .ok (.iload_n 3, 1) := by decide +kernel
theorem dl_929 : decode code 929 = .ok (.iconst 2, 1) := by decide +kernel
theorem dl_930 : decode code 930 = .ok (.iadd, 1) := by decide +kernel
theorem dl_931 : decode code 931 = .ok (.iaload, 1) := by decide +kernel
theorem dl_932 : decode code 932 = .ok (.aload_n 0, 1) := by decide +kernel
theorem dl_933 : decode code 933 = .ok (.iload_n 3, 1) := by decide +kernel
theorem dl_934 : decode code 934 = .ok (.iconst 3, 1) := by decide +kernel
theorem dl_935 : decode code 935 = .ok (.iadd, 1) := by decide +kernel
theorem dl_936 : decode code 936 = .ok (.iaload, 1) := by decide +kernel
theorem dl_937 : decode code 937 = .ok (.invokevirtual 132, 3) := by decide +kernel
theorem dl_940 : decode code 940 = .ok (.if_icmp .eq 164, 3) := by decide +kernel
theorem dl_945 : decode code 945 = .ok (.aload_n 1, 1) := by decide +kernel
theorem dl_946 : decode code 946 = .ok (.invokevirtual 133, 3) := by decide +kernel
theorem dl_949 : decode code 949 = .ok (.aload_n 2, 1) := by decide +kernel
